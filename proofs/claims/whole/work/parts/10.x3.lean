def fX3_weightError (a0 : Nat) (i1 : Int32) (i2 : Int32) (w : XW) : Option (Int32 × XW) := if xis w a0 3 = true then
  (fX3_isWithin i1 (3 : Int32) w).bind fun q1 =>
  if q1.1 = (0 : Int32) then
    some ((-1 : Int32), q1.2)
  else
  if i2 < (0 : Int32) then
    some ((-2 : Int32), q1.2)
  else
  if i2 ≤ (9 : Int32) then
    (xgR q1.2 a0 3 0).bind fun v2 =>
    (fX0_weightSum v2 q1.2).bind fun q3 =>
    (xgR q3.2 a0 3 0).bind fun v4 =>
    (fX0_weightPlace i1 q3.2).bind fun q5 =>
    (fX0_cell v4 q5.1 q5.2).bind fun q6 =>
    if ((q3.1 - q6.1) + i2) = (0 : Int32) then
      some ((-5 : Int32), q6.2)
    else
    some ((0 : Int32), q6.2)
  else
  some ((-2 : Int32), q1.2)
  else none
theorem iX3_weightError {a0 : Nat} {i1 : Int32} {i2 : Int32} {w : XW} {R9 : (Int32 × XW)} (h : fX3_weightError a0 i1 i2 w = some R9) : xis w a0 3 = true := by
  unfold fX3_weightError at h
  rcases xite h with ⟨hc, h⟩ | ⟨hc, h⟩
  · exact hc
  · exact absurd h (by simp)
theorem np_X3_weightError : (parseMethodDescriptor yX3_weightError.desc).map (fun d => d.parameters.length) = some 2 := by decide +kernel
theorem hy_X3_weightError : yX3_weightError.cls ≠ "java/lang/invoke/MethodHandle" ∧ yX3_weightError.cls ≠ "java/lang/invoke/VarHandle" := ⟨by decide +kernel, by decide +kernel⟩
set_option maxRecDepth 20000 in
theorem eX3_weightError {cx : CX} {a0 : Nat} {i1 : Int32} {i2 : Int32} {w : XW} {R9 : (Int32 × XW)} (h : fX3_weightError a0 i1 i2 w = some R9) : Ct yX3_weightError cX3_weightError 4 (some .int) 2 43 cx [.ref a0, .int i1, .int i2] w (some (.int R9.1)) R9.2 := by
  refine Ct_of (by decide +kernel) (Nat.le_of_ble_eq_true rfl) (fun K B hR => ?_)
  rw [fX3_weightError] at h
  show Wx K cx 4 w.length 0 [(0, .ref a0), (1, .int i1), (2, .int i2)] [] w
  rcases xite h with ⟨hc, h⟩ | ⟨hc, h⟩
  · skip
    refine x_iload_n (pc := 0) B 1 dX3_weightError_0 rfl rfl ?_
    refine x_iconst (pc := 1) B dX3_weightError_1 xk_iconst_3 ?_
    obtain ⟨q1, hq, h⟩ := xbind h
    refine x_callS1 (st := []) (pc := 2) B dX3_weightError_2 (eX3_isWithin hq) xt_142 xt_53 np_X3_isWithin hy_X3_isWithin (Nat.le_of_ble_eq_true rfl) (Nat.le_of_ble_eq_true rfl) (Nat.le_of_ble_eq_true rfl) xt_141 xt_140 rfl ?_
    rcases xite h with ⟨hc, h⟩ | ⟨hc, h⟩
    · refine x_if_ne_f (pc := 5) B 10 dX3_weightError_5 (by decide) hc ?_
      refine x_iconst (pc := 8) B dX3_weightError_8 xk_iconst_m1 ?_
      exact x_iret (pc := 9) B hR dX3_weightError_9 (xzI _) h
    · refine x_if_ne_t (tgt := 10) (pc := 5) B dX3_weightError_5 (by decide) hc ?_
      refine x_iload_n (pc := 10) B 2 dX3_weightError_10 rfl rfl ?_
      rcases xite h with ⟨hc, h⟩ | ⟨hc, h⟩
      · refine x_if_lt_t (tgt := 20) (pc := 11) B dX3_weightError_11 (by decide) hc ?_
        refine x_bipush (pc := 20) B dX3_weightError_20 xk_bipush_m2 ?_
        exact x_iret (pc := 22) B hR dX3_weightError_22 (xzI _) h
      · refine x_if_lt_f (pc := 11) B 20 dX3_weightError_11 (by decide) hc ?_
        refine x_iload_n (pc := 14) B 2 dX3_weightError_14 rfl rfl ?_
        refine x_bipush (pc := 15) B dX3_weightError_15 xk_bipush_9 ?_
        rcases xite h with ⟨hc, h⟩ | ⟨hc, h⟩
        · refine x_icmp_le_t (tgt := 23) (pc := 17) B dX3_weightError_17 (by decide) hc ?_
          refine x_aload_n (pc := 23) B 0 dX3_weightError_23 rfl rfl ?_
          obtain ⟨v2, hv, h⟩ := xbind h
          refine x_getR (k0 := 0) (pc := 24) B dX3_weightError_24 rfl xi_3 (by decide) ⟨rfl, rfl, rfl⟩ xt_117 hv ?_
          obtain ⟨q3, hq, h⟩ := xbind h
          refine x_callV1 (st := []) (pc := 27) B dX3_weightError_27 (eX0_weightSum hq) xt_146 xt_54 np_X0_weightSum hy_X0_weightSum (Nat.le_of_ble_eq_true rfl) (Nat.le_of_ble_eq_true rfl) (Nat.le_of_ble_eq_true rfl) xt_144 xt_145 xt_143 rfl (iX0_weightSum hq) rfl ?_
          refine x_aload_n (pc := 30) B 0 dX3_weightError_30 rfl rfl ?_
          obtain ⟨v4, hv, h⟩ := xbind h
          refine x_getR (k0 := 0) (pc := 31) B dX3_weightError_31 rfl xi_3 (by decide) ⟨rfl, rfl, rfl⟩ xt_117 hv ?_
          refine x_iload_n (pc := 34) B 1 dX3_weightError_34 rfl rfl ?_
          obtain ⟨q5, hq, h⟩ := xbind h
          refine x_callS1 (st := [.ref v4, .int q3.1]) (pc := 35) B dX3_weightError_35 (eX0_weightPlace hq) xt_149 xt_54 np_X0_weightPlace hy_X0_weightPlace (Nat.le_of_ble_eq_true rfl) (Nat.le_of_ble_eq_true rfl) (Nat.le_of_ble_eq_true rfl) xt_148 xt_154 rfl ?_
          obtain ⟨q6, hq, h⟩ := xbind h
          refine x_callV1 (st := [.int q3.1]) (pc := 38) B dX3_weightError_38 (eX0_cell hq) xt_153 xt_54 np_X0_cell hy_X0_cell (Nat.le_of_ble_eq_true rfl) (Nat.le_of_ble_eq_true rfl) (Nat.le_of_ble_eq_true rfl) xt_151 xt_152 xt_155 rfl (iX0_cell hq) rfl ?_
          refine x_isub (pc := 41) B dX3_weightError_41 ?_
          refine x_istore_n (L1 := [(3, .int (q3.1 - q6.1)), (0, .ref a0), (1, .int i1), (2, .int i2)]) (pc := 42) B dX3_weightError_42 rfl (by decide) rfl ?_
          refine x_iload_n (pc := 43) B 0 dX3_weightError_43 rfl rfl ?_
          refine x_iload_n (pc := 44) B 3 dX3_weightError_44 rfl rfl ?_
          refine x_iadd (pc := 45) B dX3_weightError_45 ?_
          rcases xite h with ⟨hc, h⟩ | ⟨hc, h⟩
          · refine x_if_ne_f (pc := 46) B 54 dX3_weightError_46 (by decide) hc ?_
            refine x_bipush (pc := 49) B dX3_weightError_49 xk_bipush_m5 ?_
            refine x_goto (tgt := 55) (pc := 51) B dX3_weightError_51 (by decide) ?_
            exact x_iret (pc := 55) B hR dX3_weightError_55 (xzI _) h
          · refine x_if_ne_t (tgt := 54) (pc := 46) B dX3_weightError_46 (by decide) hc ?_
            refine x_iconst (pc := 54) B dX3_weightError_54 xk_iconst_0 ?_
            exact x_iret (pc := 55) B hR dX3_weightError_55 (xzI _) h
        · refine x_icmp_le_f (pc := 17) B 23 dX3_weightError_17 (by decide) hc ?_
          refine x_bipush (pc := 20) B dX3_weightError_20 xk_bipush_m2 ?_
          exact x_iret (pc := 22) B hR dX3_weightError_22 (xzI _) h
  · exact absurd h (by simp)
def fX3_record_31 (a0 : Nat) (w : XW) : Option XW :=
  (xgR w a0 3 0).bind fun v2 =>
  (xgR w a0 3 3).bind fun v3 =>
  (xgI w a0 3 6).bind fun v4 =>
  (fX0_writeTo v2 v3 (v4 * (72 : Int32)) w).bind fun q5 =>
  (xgI q5 a0 3 6).bind fun v6 =>
  (xpI q5 a0 3 6 (v6 + (1 : Int32))).bind fun w7 =>
  some w7
set_option maxRecDepth 20000 in
theorem pX3_record_31 {K : KX} {cx : CX} {nn : Nat} {R9 : XW} (B : XB K cx RX3 cX3_record 1 nn 2 62) (hR : XR K cx nn none none R9) : ∀ (a0 : Nat) (w : XW), fX3_record_31 a0 w = some R9 → Wx K cx 1 nn 31 [(0, .ref a0)] [] w := by
  intro a0 w h
  rw [fX3_record_31] at h
  refine x_aload_n (pc := 31) B 0 dX3_record_31 rfl rfl ?_
  obtain ⟨v2, hv, h⟩ := xbind h
  refine x_getR (k0 := 0) (pc := 32) B dX3_record_32 rfl xi_3 (by decide) ⟨rfl, rfl, rfl⟩ xt_117 hv ?_
  refine x_aload_n (pc := 35) B 0 dX3_record_35 rfl rfl ?_
  obtain ⟨v3, hv, h⟩ := xbind h
  refine x_getR (k0 := 3) (pc := 36) B dX3_record_36 rfl xi_3 (by decide) ⟨rfl, rfl, rfl⟩ xt_120 hv ?_
  refine x_aload_n (pc := 39) B 0 dX3_record_39 rfl rfl ?_
  obtain ⟨v4, hv, h⟩ := xbind h
  refine x_getI (k0 := 6) (pc := 40) B dX3_record_40 rfl xi_3 (by decide) ⟨rfl, rfl, rfl⟩ xt_123 hv ?_
  refine x_bipush (pc := 43) B dX3_record_43 xk_bipush_72 ?_
  refine x_imul (pc := 45) B dX3_record_45 ?_
  obtain ⟨q5, hq, h⟩ := xbind h
  refine x_callV0 (st := []) (pc := 46) B dX3_record_46 (eX0_writeTo hq) xt_166 xt_54 np_X0_writeTo hy_X0_writeTo (Nat.le_of_ble_eq_true rfl) (Nat.le_of_ble_eq_true rfl) (Nat.le_of_ble_eq_true rfl) xt_164 xt_165 xt_163 rfl (iX0_writeTo hq) rfl ?_
  refine x_aload_n (pc := 49) B 0 dX3_record_49 rfl rfl ?_
  refine x_dup (pc := 50) B dX3_record_50 rfl ?_
  obtain ⟨v6, hv, h⟩ := xbind h
  refine x_getI (k0 := 6) (pc := 51) B dX3_record_51 rfl xi_3 (by decide) ⟨rfl, rfl, rfl⟩ xt_123 hv ?_
  refine x_iconst (pc := 54) B dX3_record_54 xk_iconst_1 ?_
  refine x_iadd (pc := 55) B dX3_record_55 ?_
  obtain ⟨w7, hv, h⟩ := xbind h
  refine x_putI (k0 := 6) (pc := 56) B dX3_record_56 rfl xi_3 (by decide) ⟨rfl, rfl, rfl⟩ xt_123 tyX3_ok nmX3 rfl xpdI hv ?_
  exact x_vret (pc := 59) B hR dX3_record_59 h
def fX3_record (a0 : Nat) (w : XW) : Option XW := if xis w a0 3 = true then
  (xgI w a0 3 6).bind fun v1 =>
  if v1 < (6 : Int32) then
    fX3_record_31 a0 w
  else
  (xgR w a0 3 3).bind fun v8 =>
  (xgR w a0 3 3).bind fun v9 =>
  (xcp w v8 (72 : Int32) v9 (0 : Int32) (360 : Int32)).bind fun w10 =>
  (xpI w10 a0 3 6 (5 : Int32)).bind fun w11 =>
  fX3_record_31 a0 w11
  else none
theorem iX3_record {a0 : Nat} {w : XW} {R9 : XW} (h : fX3_record a0 w = some R9) : xis w a0 3 = true := by
  unfold fX3_record at h
  rcases xite h with ⟨hc, h⟩ | ⟨hc, h⟩
  · exact hc
  · exact absurd h (by simp)
theorem np_X3_record : (parseMethodDescriptor yX3_record.desc).map (fun d => d.parameters.length) = some 0 := by decide +kernel
theorem hy_X3_record : yX3_record.cls ≠ "java/lang/invoke/MethodHandle" ∧ yX3_record.cls ≠ "java/lang/invoke/VarHandle" := ⟨by decide +kernel, by decide +kernel⟩
set_option maxRecDepth 20000 in
theorem eX3_record {cx : CX} {a0 : Nat} {w : XW} {R9 : XW} (h : fX3_record a0 w = some R9) : Ct yX3_record cX3_record 1 none 2 62 cx [.ref a0] w none R9 := by
  refine Ct_of (by decide +kernel) (Nat.le_of_ble_eq_true rfl) (fun K B hR => ?_)
  rw [fX3_record] at h
  show Wx K cx 1 w.length 0 [(0, .ref a0)] [] w
  rcases xite h with ⟨hc, h⟩ | ⟨hc, h⟩
  · skip
    refine x_aload_n (pc := 0) B 0 dX3_record_0 rfl rfl ?_
    obtain ⟨v1, hv, h⟩ := xbind h
    refine x_getI (k0 := 6) (pc := 1) B dX3_record_1 rfl xi_3 (by decide) ⟨rfl, rfl, rfl⟩ xt_123 hv ?_
    refine x_bipush (pc := 4) B dX3_record_4 xk_bipush_6 ?_
    rcases xite h with ⟨hc, h⟩ | ⟨hc, h⟩
    · refine x_icmp_lt_t (tgt := 31) (pc := 6) B dX3_record_6 (by decide) hc ?_
      exact pX3_record_31 B hR a0 w h
    · refine x_icmp_lt_f (pc := 6) B 31 dX3_record_6 (by decide) hc ?_
      refine x_aload_n (pc := 9) B 0 dX3_record_9 rfl rfl ?_
      obtain ⟨v8, hv, h⟩ := xbind h
      refine x_getR (k0 := 3) (pc := 10) B dX3_record_10 rfl xi_3 (by decide) ⟨rfl, rfl, rfl⟩ xt_120 hv ?_
      refine x_bipush (pc := 13) B dX3_record_13 xk_bipush_72 ?_
      refine x_aload_n (pc := 15) B 0 dX3_record_15 rfl rfl ?_
      obtain ⟨v9, hv, h⟩ := xbind h
      refine x_getR (k0 := 3) (pc := 16) B dX3_record_16 rfl xi_3 (by decide) ⟨rfl, rfl, rfl⟩ xt_120 hv ?_
      refine x_iconst (pc := 19) B dX3_record_19 xk_iconst_0 ?_
      refine x_sipush (pc := 20) B dX3_record_20 xk_sipush_360 ?_
      obtain ⟨w10, hv, h⟩ := xbind h
      refine x_copy (pc := 23) B dX3_record_23 xt_160 (Nat.le_of_ble_eq_true rfl) (Nat.le_of_ble_eq_true rfl) hv ?_
      refine x_aload_n (pc := 26) B 0 dX3_record_26 rfl rfl ?_
      refine x_iconst (pc := 27) B dX3_record_27 xk_iconst_5 ?_
      obtain ⟨w11, hv, h⟩ := xbind h
      refine x_putI (k0 := 6) (pc := 28) B dX3_record_28 rfl xi_3 (by decide) ⟨rfl, rfl, rfl⟩ xt_123 tyX3_ok nmX3 rfl xpdI hv ?_
      exact pX3_record_31 B hR a0 w11 h
  · exact absurd h (by simp)
def fX3_weight (a0 : Nat) (i1 : Int32) (i2 : Int32) (w : XW) : Option (Int32 × XW) := if xis w a0 3 = true then
  (fX3_weightError a0 i1 i2 w).bind fun q1 =>
  if q1.1 = (0 : Int32) then
    (fX3_record a0 q1.2).bind fun q2 =>
    (xgR q2 a0 3 0).bind fun v3 =>
    (fX0_weightPlace i1 q2).bind fun q4 =>
    (fX0_change v3 q4.1 i2 q4.2).bind fun q5 =>
    some (q5.1, q5.2)
  else
  some (q1.1, q1.2)
  else none
theorem iX3_weight {a0 : Nat} {i1 : Int32} {i2 : Int32} {w : XW} {R9 : (Int32 × XW)} (h : fX3_weight a0 i1 i2 w = some R9) : xis w a0 3 = true := by
  unfold fX3_weight at h
  rcases xite h with ⟨hc, h⟩ | ⟨hc, h⟩
  · exact hc
  · exact absurd h (by simp)
theorem np_X3_weight : (parseMethodDescriptor yX3_weight.desc).map (fun d => d.parameters.length) = some 2 := by decide +kernel
theorem hy_X3_weight : yX3_weight.cls ≠ "java/lang/invoke/MethodHandle" ∧ yX3_weight.cls ≠ "java/lang/invoke/VarHandle" := ⟨by decide +kernel, by decide +kernel⟩
set_option maxRecDepth 20000 in
theorem eX3_weight {cx : CX} {a0 : Nat} {i1 : Int32} {i2 : Int32} {w : XW} {R9 : (Int32 × XW)} (h : fX3_weight a0 i1 i2 w = some R9) : Ct yX3_weight cX3_weight 4 (some .int) 3 82 cx [.ref a0, .int i1, .int i2] w (some (.int R9.1)) R9.2 := by
  refine Ct_of (by decide +kernel) (Nat.le_of_ble_eq_true rfl) (fun K B hR => ?_)
  rw [fX3_weight] at h
  show Wx K cx 4 w.length 0 [(0, .ref a0), (1, .int i1), (2, .int i2)] [] w
  rcases xite h with ⟨hc, h⟩ | ⟨hc, h⟩
  · skip
    refine x_aload_n (pc := 0) B 0 dX3_weight_0 rfl rfl ?_
    refine x_iload_n (pc := 1) B 1 dX3_weight_1 rfl rfl ?_
    refine x_iload_n (pc := 2) B 2 dX3_weight_2 rfl rfl ?_
    obtain ⟨q1, hq, h⟩ := xbind h
    refine x_callV1 (st := []) (pc := 3) B dX3_weight_3 (eX3_weightError hq) xt_139 xt_53 np_X3_weightError hy_X3_weightError (Nat.le_of_ble_eq_true rfl) (Nat.le_of_ble_eq_true rfl) (Nat.le_of_ble_eq_true rfl) xt_138 xt_0 xt_136 rfl (iX3_weightError hq) rfl ?_
    refine x_istore_n (L1 := [(3, .int q1.1), (0, .ref a0), (1, .int i1), (2, .int i2)]) (pc := 6) B dX3_weight_6 rfl (by decide) rfl ?_
    refine x_iload_n (pc := 7) B 0 dX3_weight_7 rfl rfl ?_
    rcases xite h with ⟨hc, h⟩ | ⟨hc, h⟩
    · refine x_if_eq_t (tgt := 13) (pc := 8) B dX3_weight_8 (by decide) hc ?_
      refine x_aload_n (pc := 13) B 1 dX3_weight_13 rfl rfl ?_
      obtain ⟨q2, hq, h⟩ := xbind h
      refine x_callV0 (st := []) (pc := 14) B dX3_weight_14 (eX3_record hq) xt_159 xt_53 np_X3_record hy_X3_record (Nat.le_of_ble_eq_true rfl) (Nat.le_of_ble_eq_true rfl) (Nat.le_of_ble_eq_true rfl) xt_158 xt_1 xt_156 rfl (iX3_record hq) rfl ?_
      refine x_aload_n (pc := 17) B 1 dX3_weight_17 rfl rfl ?_
      obtain ⟨v3, hv, h⟩ := xbind h
      refine x_getR (k0 := 0) (pc := 18) B dX3_weight_18 rfl xi_3 (by decide) ⟨rfl, rfl, rfl⟩ xt_117 hv ?_
      refine x_iload_n (pc := 21) B 2 dX3_weight_21 rfl rfl ?_
      obtain ⟨q4, hq, h⟩ := xbind h
      refine x_callS1 (st := [.ref v3]) (pc := 22) B dX3_weight_22 (eX0_weightPlace hq) xt_149 xt_54 np_X0_weightPlace hy_X0_weightPlace (Nat.le_of_ble_eq_true rfl) (Nat.le_of_ble_eq_true rfl) (Nat.le_of_ble_eq_true rfl) xt_148 xt_154 rfl ?_
      refine x_iload_n (pc := 25) B 3 dX3_weight_25 rfl rfl ?_
      obtain ⟨q5, hq, h⟩ := xbind h
      refine x_callV1 (st := []) (pc := 26) B dX3_weight_26 (eX0_change hq) xt_171 xt_54 np_X0_change hy_X0_change (Nat.le_of_ble_eq_true rfl) (Nat.le_of_ble_eq_true rfl) (Nat.le_of_ble_eq_true rfl) xt_169 xt_170 xt_168 rfl (iX0_change hq) rfl ?_
      exact x_iret (pc := 29) B hR dX3_weight_29 (xzI _) h
    · refine x_if_eq_f (pc := 8) B 13 dX3_weight_8 (by decide) hc ?_
      refine x_iload_n (pc := 11) B 0 dX3_weight_11 rfl rfl ?_
      exact x_iret (pc := 12) B hR dX3_weight_12 (xzI _) h
  · exact absurd h (by simp)
def fX3_pay_36 (a0 : Nat) (i1 : Int32) (i2 : Int32) (i3 : Int32) (i4 : Int32) (i5 : Int32) (w : XW) : Option (Int32 × XW) :=
  if i5 < (-9 : Int32) then
    some ((-2 : Int32), w)
  else
  if i5 ≤ (9 : Int32) then
    (fX3_record a0 w).bind fun q4 =>
    (xgR q4 a0 3 0).bind fun v5 =>
    (fX0_payPlace i1 i2 i3 i4 q4).bind fun q6 =>
    (fX0_change v5 q6.1 i5 q6.2).bind fun q7 =>
    some ((q7.1 + (100 : Int32)), q7.2)
  else
  some ((-2 : Int32), w)
set_option maxRecDepth 20000 in
theorem pX3_pay_36 {K : KX} {cx : CX} {nn : Nat} {R9 : Int32 × XW} (B : XB K cx RX3 cX3_pay 6 nn 3 82) (hR : XR K cx nn (some .int) (some (.int R9.1)) R9.2) : ∀ (a0 : Nat) (i1 : Int32) (i2 : Int32) (i3 : Int32) (i4 : Int32) (i5 : Int32) (w : XW), fX3_pay_36 a0 i1 i2 i3 i4 i5 w = some R9 → Wx K cx 6 nn 36 [(0, .ref a0), (1, .int i1), (2, .int i2), (3, .int i3), (4, .int i4), (5, .int i5)] [] w := by
  intro a0 i1 i2 i3 i4 i5 w h
  rw [fX3_pay_36] at h
  refine x_iload (pc := 36) B 5 dX3_pay_36 rfl ?_
  refine x_bipush (pc := 38) B dX3_pay_38 xk_bipush_m9 ?_
  rcases xite h with ⟨hc, h⟩ | ⟨hc, h⟩
  · refine x_icmp_lt_t (tgt := 50) (pc := 40) B dX3_pay_40 (by decide) hc ?_
    refine x_bipush (pc := 50) B dX3_pay_50 xk_bipush_m2 ?_
    exact x_iret (pc := 52) B hR dX3_pay_52 (xzI _) h
  · refine x_icmp_lt_f (pc := 40) B 50 dX3_pay_40 (by decide) hc ?_
    refine x_iload (pc := 43) B 5 dX3_pay_43 rfl ?_
    refine x_bipush (pc := 45) B dX3_pay_45 xk_bipush_9 ?_
    rcases xite h with ⟨hc, h⟩ | ⟨hc, h⟩
    · refine x_icmp_le_t (tgt := 53) (pc := 47) B dX3_pay_47 (by decide) hc ?_
      refine x_aload_n (pc := 53) B 0 dX3_pay_53 rfl rfl ?_
      obtain ⟨q4, hq, h⟩ := xbind h
      refine x_callV0 (st := []) (pc := 54) B dX3_pay_54 (eX3_record hq) xt_159 xt_53 np_X3_record hy_X3_record (Nat.le_of_ble_eq_true rfl) (Nat.le_of_ble_eq_true rfl) (Nat.le_of_ble_eq_true rfl) xt_158 xt_1 xt_156 rfl (iX3_record hq) rfl ?_
      refine x_aload_n (pc := 57) B 0 dX3_pay_57 rfl rfl ?_
      obtain ⟨v5, hv, h⟩ := xbind h
      refine x_getR (k0 := 0) (pc := 58) B dX3_pay_58 rfl xi_3 (by decide) ⟨rfl, rfl, rfl⟩ xt_117 hv ?_
      refine x_iload_n (pc := 61) B 1 dX3_pay_61 rfl rfl ?_
      refine x_iload_n (pc := 62) B 2 dX3_pay_62 rfl rfl ?_
      refine x_iload_n (pc := 63) B 3 dX3_pay_63 rfl rfl ?_
      refine x_iload (pc := 64) B 4 dX3_pay_64 rfl ?_
      obtain ⟨q6, hq, h⟩ := xbind h
      refine x_callS1 (st := [.ref v5]) (pc := 66) B dX3_pay_66 (eX0_payPlace hq) xt_186 xt_54 np_X0_payPlace hy_X0_payPlace (Nat.le_of_ble_eq_true rfl) (Nat.le_of_ble_eq_true rfl) (Nat.le_of_ble_eq_true rfl) xt_185 xt_184 rfl ?_
      refine x_iload (pc := 69) B 5 dX3_pay_69 rfl ?_
      obtain ⟨q7, hq, h⟩ := xbind h
      refine x_callV1 (st := []) (pc := 71) B dX3_pay_71 (eX0_change hq) xt_171 xt_54 np_X0_change hy_X0_change (Nat.le_of_ble_eq_true rfl) (Nat.le_of_ble_eq_true rfl) (Nat.le_of_ble_eq_true rfl) xt_169 xt_170 xt_168 rfl (iX0_change hq) rfl ?_
      refine x_bipush (pc := 74) B dX3_pay_74 xk_bipush_100 ?_
      refine x_iadd (pc := 76) B dX3_pay_76 ?_
      exact x_iret (pc := 77) B hR dX3_pay_77 (xzI _) h
    · refine x_icmp_le_f (pc := 47) B 53 dX3_pay_47 (by decide) hc ?_
      refine x_bipush (pc := 50) B dX3_pay_50 xk_bipush_m2 ?_
      exact x_iret (pc := 52) B hR dX3_pay_52 (xzI _) h
def fX3_pay (a0 : Nat) (i1 : Int32) (i2 : Int32) (i3 : Int32) (i4 : Int32) (i5 : Int32) (w : XW) : Option (Int32 × XW) := if xis w a0 3 = true then
  (fX3_isWithin i2 (3 : Int32) w).bind fun q1 =>
  if q1.1 = (0 : Int32) then
    some ((-1 : Int32), q1.2)
  else
  (fX3_isWithin i3 (3 : Int32) q1.2).bind fun q2 =>
  if q2.1 = (0 : Int32) then
    some ((-1 : Int32), q2.2)
  else
  (fX3_isWithin i4 (3 : Int32) q2.2).bind fun q3 =>
  if q3.1 = (0 : Int32) then
    some ((-1 : Int32), q3.2)
  else
  if i1 = (0 : Int32) then
    fX3_pay_36 a0 i1 i2 i3 i4 i5 q3.2
  else
  if i1 = (1 : Int32) then
    fX3_pay_36 a0 i1 i2 i3 i4 i5 q3.2
  else
  some ((-2 : Int32), q3.2)
  else none
theorem iX3_pay {a0 : Nat} {i1 : Int32} {i2 : Int32} {i3 : Int32} {i4 : Int32} {i5 : Int32} {w : XW} {R9 : (Int32 × XW)} (h : fX3_pay a0 i1 i2 i3 i4 i5 w = some R9) : xis w a0 3 = true := by
  unfold fX3_pay at h
  rcases xite h with ⟨hc, h⟩ | ⟨hc, h⟩
  · exact hc
  · exact absurd h (by simp)
theorem np_X3_pay : (parseMethodDescriptor yX3_pay.desc).map (fun d => d.parameters.length) = some 5 := by decide +kernel
theorem hy_X3_pay : yX3_pay.cls ≠ "java/lang/invoke/MethodHandle" ∧ yX3_pay.cls ≠ "java/lang/invoke/VarHandle" := ⟨by decide +kernel, by decide +kernel⟩
set_option maxRecDepth 20000 in
theorem eX3_pay {cx : CX} {a0 : Nat} {i1 : Int32} {i2 : Int32} {i3 : Int32} {i4 : Int32} {i5 : Int32} {w : XW} {R9 : (Int32 × XW)} (h : fX3_pay a0 i1 i2 i3 i4 i5 w = some R9) : Ct yX3_pay cX3_pay 6 (some .int) 3 82 cx [.ref a0, .int i1, .int i2, .int i3, .int i4, .int i5] w (some (.int R9.1)) R9.2 := by
  refine Ct_of (by decide +kernel) (Nat.le_of_ble_eq_true rfl) (fun K B hR => ?_)
  rw [fX3_pay] at h
  show Wx K cx 6 w.length 0 [(0, .ref a0), (1, .int i1), (2, .int i2), (3, .int i3), (4, .int i4), (5, .int i5)] [] w
  rcases xite h with ⟨hc, h⟩ | ⟨hc, h⟩
  · skip
    refine x_iload_n (pc := 0) B 2 dX3_pay_0 rfl rfl ?_
    refine x_iconst (pc := 1) B dX3_pay_1 xk_iconst_3 ?_
    obtain ⟨q1, hq, h⟩ := xbind h
    refine x_callS1 (st := []) (pc := 2) B dX3_pay_2 (eX3_isWithin hq) xt_142 xt_53 np_X3_isWithin hy_X3_isWithin (Nat.le_of_ble_eq_true rfl) (Nat.le_of_ble_eq_true rfl) (Nat.le_of_ble_eq_true rfl) xt_141 xt_140 rfl ?_
    rcases xite h with ⟨hc, h⟩ | ⟨hc, h⟩
    · refine x_if_eq_t (tgt := 25) (pc := 5) B dX3_pay_5 (by decide) hc ?_
      refine x_iconst (pc := 25) B dX3_pay_25 xk_iconst_m1 ?_
      exact x_iret (pc := 26) B hR dX3_pay_26 (xzI _) h
    · refine x_if_eq_f (pc := 5) B 25 dX3_pay_5 (by decide) hc ?_
      refine x_iload_n (pc := 8) B 3 dX3_pay_8 rfl rfl ?_
      refine x_iconst (pc := 9) B dX3_pay_9 xk_iconst_3 ?_
      obtain ⟨q2, hq, h⟩ := xbind h
      refine x_callS1 (st := []) (pc := 10) B dX3_pay_10 (eX3_isWithin hq) xt_142 xt_53 np_X3_isWithin hy_X3_isWithin (Nat.le_of_ble_eq_true rfl) (Nat.le_of_ble_eq_true rfl) (Nat.le_of_ble_eq_true rfl) xt_141 xt_140 rfl ?_
      rcases xite h with ⟨hc, h⟩ | ⟨hc, h⟩
      · refine x_if_eq_t (tgt := 25) (pc := 13) B dX3_pay_13 (by decide) hc ?_
        refine x_iconst (pc := 25) B dX3_pay_25 xk_iconst_m1 ?_
        exact x_iret (pc := 26) B hR dX3_pay_26 (xzI _) h
      · refine x_if_eq_f (pc := 13) B 25 dX3_pay_13 (by decide) hc ?_
        refine x_iload (pc := 16) B 4 dX3_pay_16 rfl ?_
        refine x_iconst (pc := 18) B dX3_pay_18 xk_iconst_3 ?_
        obtain ⟨q3, hq, h⟩ := xbind h
        refine x_callS1 (st := []) (pc := 19) B dX3_pay_19 (eX3_isWithin hq) xt_142 xt_53 np_X3_isWithin hy_X3_isWithin (Nat.le_of_ble_eq_true rfl) (Nat.le_of_ble_eq_true rfl) (Nat.le_of_ble_eq_true rfl) xt_141 xt_140 rfl ?_
        rcases xite h with ⟨hc, h⟩ | ⟨hc, h⟩
        · refine x_if_ne_f (pc := 22) B 27 dX3_pay_22 (by decide) hc ?_
          refine x_iconst (pc := 25) B dX3_pay_25 xk_iconst_m1 ?_
          exact x_iret (pc := 26) B hR dX3_pay_26 (xzI _) h
        · refine x_if_ne_t (tgt := 27) (pc := 22) B dX3_pay_22 (by decide) hc ?_
          refine x_iload_n (pc := 27) B 1 dX3_pay_27 rfl rfl ?_
          rcases xite h with ⟨hc, h⟩ | ⟨hc, h⟩
          · refine x_if_eq_t (tgt := 36) (pc := 28) B dX3_pay_28 (by decide) hc ?_
            exact pX3_pay_36 B hR a0 i1 i2 i3 i4 i5 q3.2 h
          · refine x_if_eq_f (pc := 28) B 36 dX3_pay_28 (by decide) hc ?_
            refine x_iload_n (pc := 31) B 1 dX3_pay_31 rfl rfl ?_
            refine x_iconst (pc := 32) B dX3_pay_32 xk_iconst_1 ?_
            rcases xite h with ⟨hc, h⟩ | ⟨hc, h⟩
            · refine x_icmp_ne_f (pc := 33) B 50 dX3_pay_33 (by decide) hc ?_
              exact pX3_pay_36 B hR a0 i1 i2 i3 i4 i5 q3.2 h
            · refine x_icmp_ne_t (tgt := 50) (pc := 33) B dX3_pay_33 (by decide) hc ?_
              refine x_bipush (pc := 50) B dX3_pay_50 xk_bipush_m2 ?_
              exact x_iret (pc := 52) B hR dX3_pay_52 (xzI _) h
  · exact absurd h (by simp)
def fX3_beliefError (a0 : Nat) (i1 : Int32) (i2 : Int32) (i3 : Int32) (w : XW) : Option (Int32 × XW) := if xis w a0 3 = true then
  (fX3_isWithin i1 (3 : Int32) w).bind fun q1 =>
  if q1.1 = (0 : Int32) then
    some ((-1 : Int32), q1.2)
  else
  (fX3_isWithin i2 (3 : Int32) q1.2).bind fun q2 =>
  if q2.1 = (0 : Int32) then
    some ((-1 : Int32), q2.2)
  else
  if i3 < (0 : Int32) then
    some ((-2 : Int32), q2.2)
  else
  if i3 ≤ (9 : Int32) then
    (xgR q2.2 a0 3 0).bind fun v3 =>
    (fX0_toldSum v3 i1 q2.2).bind fun q4 =>
    (xgR q4.2 a0 3 0).bind fun v5 =>
    (fX0_toldPlace i1 i2 q4.2).bind fun q6 =>
    (fX0_cell v5 q6.1 q6.2).bind fun q7 =>
    if ((q4.1 - q7.1) + i3) = (0 : Int32) then
      some ((-5 : Int32), q7.2)
    else
    some ((0 : Int32), q7.2)
  else
  some ((-2 : Int32), q2.2)
  else none
theorem iX3_beliefError {a0 : Nat} {i1 : Int32} {i2 : Int32} {i3 : Int32} {w : XW} {R9 : (Int32 × XW)} (h : fX3_beliefError a0 i1 i2 i3 w = some R9) : xis w a0 3 = true := by
  unfold fX3_beliefError at h
  rcases xite h with ⟨hc, h⟩ | ⟨hc, h⟩
  · exact hc
  · exact absurd h (by simp)
theorem np_X3_beliefError : (parseMethodDescriptor yX3_beliefError.desc).map (fun d => d.parameters.length) = some 3 := by decide +kernel
theorem hy_X3_beliefError : yX3_beliefError.cls ≠ "java/lang/invoke/MethodHandle" ∧ yX3_beliefError.cls ≠ "java/lang/invoke/VarHandle" := ⟨by decide +kernel, by decide +kernel⟩
set_option maxRecDepth 20000 in
theorem eX3_beliefError {cx : CX} {a0 : Nat} {i1 : Int32} {i2 : Int32} {i3 : Int32} {w : XW} {R9 : (Int32 × XW)} (h : fX3_beliefError a0 i1 i2 i3 w = some R9) : Ct yX3_beliefError cX3_beliefError 5 (some .int) 2 44 cx [.ref a0, .int i1, .int i2, .int i3] w (some (.int R9.1)) R9.2 := by
  refine Ct_of (by decide +kernel) (Nat.le_of_ble_eq_true rfl) (fun K B hR => ?_)
  rw [fX3_beliefError] at h
  show Wx K cx 5 w.length 0 [(0, .ref a0), (1, .int i1), (2, .int i2), (3, .int i3)] [] w
  rcases xite h with ⟨hc, h⟩ | ⟨hc, h⟩
  · skip
    refine x_iload_n (pc := 0) B 1 dX3_beliefError_0 rfl rfl ?_
    refine x_iconst (pc := 1) B dX3_beliefError_1 xk_iconst_3 ?_
    obtain ⟨q1, hq, h⟩ := xbind h
    refine x_callS1 (st := []) (pc := 2) B dX3_beliefError_2 (eX3_isWithin hq) xt_142 xt_53 np_X3_isWithin hy_X3_isWithin (Nat.le_of_ble_eq_true rfl) (Nat.le_of_ble_eq_true rfl) (Nat.le_of_ble_eq_true rfl) xt_141 xt_140 rfl ?_
    rcases xite h with ⟨hc, h⟩ | ⟨hc, h⟩
    · refine x_if_eq_t (tgt := 16) (pc := 5) B dX3_beliefError_5 (by decide) hc ?_
      refine x_iconst (pc := 16) B dX3_beliefError_16 xk_iconst_m1 ?_
      exact x_iret (pc := 17) B hR dX3_beliefError_17 (xzI _) h
    · refine x_if_eq_f (pc := 5) B 16 dX3_beliefError_5 (by decide) hc ?_
      refine x_iload_n (pc := 8) B 2 dX3_beliefError_8 rfl rfl ?_
      refine x_iconst (pc := 9) B dX3_beliefError_9 xk_iconst_3 ?_
      obtain ⟨q2, hq, h⟩ := xbind h
      refine x_callS1 (st := []) (pc := 10) B dX3_beliefError_10 (eX3_isWithin hq) xt_142 xt_53 np_X3_isWithin hy_X3_isWithin (Nat.le_of_ble_eq_true rfl) (Nat.le_of_ble_eq_true rfl) (Nat.le_of_ble_eq_true rfl) xt_141 xt_140 rfl ?_
      rcases xite h with ⟨hc, h⟩ | ⟨hc, h⟩
      · refine x_if_ne_f (pc := 13) B 18 dX3_beliefError_13 (by decide) hc ?_
        refine x_iconst (pc := 16) B dX3_beliefError_16 xk_iconst_m1 ?_
        exact x_iret (pc := 17) B hR dX3_beliefError_17 (xzI _) h
      · refine x_if_ne_t (tgt := 18) (pc := 13) B dX3_beliefError_13 (by decide) hc ?_
        refine x_iload_n (pc := 18) B 3 dX3_beliefError_18 rfl rfl ?_
        rcases xite h with ⟨hc, h⟩ | ⟨hc, h⟩
        · refine x_if_lt_t (tgt := 28) (pc := 19) B dX3_beliefError_19 (by decide) hc ?_
          refine x_bipush (pc := 28) B dX3_beliefError_28 xk_bipush_m2 ?_
          exact x_iret (pc := 30) B hR dX3_beliefError_30 (xzI _) h
        · refine x_if_lt_f (pc := 19) B 28 dX3_beliefError_19 (by decide) hc ?_
          refine x_iload_n (pc := 22) B 3 dX3_beliefError_22 rfl rfl ?_
          refine x_bipush (pc := 23) B dX3_beliefError_23 xk_bipush_9 ?_
          rcases xite h with ⟨hc, h⟩ | ⟨hc, h⟩
          · refine x_icmp_le_t (tgt := 31) (pc := 25) B dX3_beliefError_25 (by decide) hc ?_
            refine x_aload_n (pc := 31) B 0 dX3_beliefError_31 rfl rfl ?_
            obtain ⟨v3, hv, h⟩ := xbind h
            refine x_getR (k0 := 0) (pc := 32) B dX3_beliefError_32 rfl xi_3 (by decide) ⟨rfl, rfl, rfl⟩ xt_117 hv ?_
            refine x_iload_n (pc := 35) B 1 dX3_beliefError_35 rfl rfl ?_
            obtain ⟨q4, hq, h⟩ := xbind h
            refine x_callV1 (st := []) (pc := 36) B dX3_beliefError_36 (eX0_toldSum hq) xt_198 xt_54 np_X0_toldSum hy_X0_toldSum (Nat.le_of_ble_eq_true rfl) (Nat.le_of_ble_eq_true rfl) (Nat.le_of_ble_eq_true rfl) xt_196 xt_197 xt_195 rfl (iX0_toldSum hq) rfl ?_
            refine x_aload_n (pc := 39) B 0 dX3_beliefError_39 rfl rfl ?_
            obtain ⟨v5, hv, h⟩ := xbind h
            refine x_getR (k0 := 0) (pc := 40) B dX3_beliefError_40 rfl xi_3 (by decide) ⟨rfl, rfl, rfl⟩ xt_117 hv ?_
            refine x_iload_n (pc := 43) B 1 dX3_beliefError_43 rfl rfl ?_
            refine x_iload_n (pc := 44) B 2 dX3_beliefError_44 rfl rfl ?_
            obtain ⟨q6, hq, h⟩ := xbind h
            refine x_callS1 (st := [.ref v5, .int q4.1]) (pc := 45) B dX3_beliefError_45 (eX0_toldPlace hq) xt_201 xt_54 np_X0_toldPlace hy_X0_toldPlace (Nat.le_of_ble_eq_true rfl) (Nat.le_of_ble_eq_true rfl) (Nat.le_of_ble_eq_true rfl) xt_200 xt_202 rfl ?_
            obtain ⟨q7, hq, h⟩ := xbind h
            refine x_callV1 (st := [.int q4.1]) (pc := 48) B dX3_beliefError_48 (eX0_cell hq) xt_153 xt_54 np_X0_cell hy_X0_cell (Nat.le_of_ble_eq_true rfl) (Nat.le_of_ble_eq_true rfl) (Nat.le_of_ble_eq_true rfl) xt_151 xt_152 xt_155 rfl (iX0_cell hq) rfl ?_
            refine x_isub (pc := 51) B dX3_beliefError_51 ?_
            refine x_istore (L1 := [(4, .int (q4.1 - q7.1)), (0, .ref a0), (1, .int i1), (2, .int i2), (3, .int i3)]) (pc := 52) B dX3_beliefError_52 (by decide) rfl ?_
            refine x_iload (pc := 54) B 0 dX3_beliefError_54 rfl ?_
            refine x_iload_n (pc := 56) B 4 dX3_beliefError_56 rfl rfl ?_
            refine x_iadd (pc := 57) B dX3_beliefError_57 ?_
            rcases xite h with ⟨hc, h⟩ | ⟨hc, h⟩
            · refine x_if_ne_f (pc := 58) B 66 dX3_beliefError_58 (by decide) hc ?_
              refine x_bipush (pc := 61) B dX3_beliefError_61 xk_bipush_m5 ?_
              refine x_goto (tgt := 67) (pc := 63) B dX3_beliefError_63 (by decide) ?_
              exact x_iret (pc := 67) B hR dX3_beliefError_67 (xzI _) h
            · refine x_if_ne_t (tgt := 66) (pc := 58) B dX3_beliefError_58 (by decide) hc ?_
              refine x_iconst (pc := 66) B dX3_beliefError_66 xk_iconst_0 ?_
              exact x_iret (pc := 67) B hR dX3_beliefError_67 (xzI _) h
          · refine x_icmp_le_f (pc := 25) B 31 dX3_beliefError_25 (by decide) hc ?_
            refine x_bipush (pc := 28) B dX3_beliefError_28 xk_bipush_m2 ?_
            exact x_iret (pc := 30) B hR dX3_beliefError_30 (xzI _) h
  · exact absurd h (by simp)
def fX3_believe (a0 : Nat) (i1 : Int32) (i2 : Int32) (i3 : Int32) (w : XW) : Option (Int32 × XW) := if xis w a0 3 = true then
  (fX3_beliefError a0 i1 i2 i3 w).bind fun q1 =>
  if q1.1 = (0 : Int32) then
    (fX3_record a0 q1.2).bind fun q2 =>
    (xgR q2 a0 3 0).bind fun v3 =>
    (fX0_toldPlace i1 i2 q2).bind fun q4 =>
    (fX0_change v3 q4.1 i3 q4.2).bind fun q5 =>
    some (q5.1, q5.2)
  else
  some (q1.1, q1.2)
  else none
theorem iX3_believe {a0 : Nat} {i1 : Int32} {i2 : Int32} {i3 : Int32} {w : XW} {R9 : (Int32 × XW)} (h : fX3_believe a0 i1 i2 i3 w = some R9) : xis w a0 3 = true := by
  unfold fX3_believe at h
  rcases xite h with ⟨hc, h⟩ | ⟨hc, h⟩
  · exact hc
  · exact absurd h (by simp)
theorem np_X3_believe : (parseMethodDescriptor yX3_believe.desc).map (fun d => d.parameters.length) = some 3 := by decide +kernel
theorem hy_X3_believe : yX3_believe.cls ≠ "java/lang/invoke/MethodHandle" ∧ yX3_believe.cls ≠ "java/lang/invoke/VarHandle" := ⟨by decide +kernel, by decide +kernel⟩
set_option maxRecDepth 20000 in
theorem eX3_believe {cx : CX} {a0 : Nat} {i1 : Int32} {i2 : Int32} {i3 : Int32} {w : XW} {R9 : (Int32 × XW)} (h : fX3_believe a0 i1 i2 i3 w = some R9) : Ct yX3_believe cX3_believe 5 (some .int) 3 82 cx [.ref a0, .int i1, .int i2, .int i3] w (some (.int R9.1)) R9.2 := by
  refine Ct_of (by decide +kernel) (Nat.le_of_ble_eq_true rfl) (fun K B hR => ?_)
  rw [fX3_believe] at h
  show Wx K cx 5 w.length 0 [(0, .ref a0), (1, .int i1), (2, .int i2), (3, .int i3)] [] w
  rcases xite h with ⟨hc, h⟩ | ⟨hc, h⟩
  · skip
    refine x_aload_n (pc := 0) B 0 dX3_believe_0 rfl rfl ?_
    refine x_iload_n (pc := 1) B 1 dX3_believe_1 rfl rfl ?_
    refine x_iload_n (pc := 2) B 2 dX3_believe_2 rfl rfl ?_
    refine x_iload_n (pc := 3) B 3 dX3_believe_3 rfl rfl ?_
    obtain ⟨q1, hq, h⟩ := xbind h
    refine x_callV1 (st := []) (pc := 4) B dX3_believe_4 (eX3_beliefError hq) xt_194 xt_53 np_X3_beliefError hy_X3_beliefError (Nat.le_of_ble_eq_true rfl) (Nat.le_of_ble_eq_true rfl) (Nat.le_of_ble_eq_true rfl) xt_193 xt_3 xt_191 rfl (iX3_beliefError hq) rfl ?_
    refine x_istore (L1 := [(4, .int q1.1), (0, .ref a0), (1, .int i1), (2, .int i2), (3, .int i3)]) (pc := 7) B dX3_believe_7 (by decide) rfl ?_
    refine x_iload (pc := 9) B 0 dX3_believe_9 rfl ?_
    rcases xite h with ⟨hc, h⟩ | ⟨hc, h⟩
    · refine x_if_eq_t (tgt := 17) (pc := 11) B dX3_believe_11 (by decide) hc ?_
      refine x_aload_n (pc := 17) B 1 dX3_believe_17 rfl rfl ?_
      obtain ⟨q2, hq, h⟩ := xbind h
      refine x_callV0 (st := []) (pc := 18) B dX3_believe_18 (eX3_record hq) xt_159 xt_53 np_X3_record hy_X3_record (Nat.le_of_ble_eq_true rfl) (Nat.le_of_ble_eq_true rfl) (Nat.le_of_ble_eq_true rfl) xt_158 xt_1 xt_156 rfl (iX3_record hq) rfl ?_
      refine x_aload_n (pc := 21) B 1 dX3_believe_21 rfl rfl ?_
      obtain ⟨v3, hv, h⟩ := xbind h
      refine x_getR (k0 := 0) (pc := 22) B dX3_believe_22 rfl xi_3 (by decide) ⟨rfl, rfl, rfl⟩ xt_117 hv ?_
      refine x_iload_n (pc := 25) B 2 dX3_believe_25 rfl rfl ?_
      refine x_iload_n (pc := 26) B 3 dX3_believe_26 rfl rfl ?_
      obtain ⟨q4, hq, h⟩ := xbind h
      refine x_callS1 (st := [.ref v3]) (pc := 27) B dX3_believe_27 (eX0_toldPlace hq) xt_201 xt_54 np_X0_toldPlace hy_X0_toldPlace (Nat.le_of_ble_eq_true rfl) (Nat.le_of_ble_eq_true rfl) (Nat.le_of_ble_eq_true rfl) xt_200 xt_202 rfl ?_
      refine x_iload_n (pc := 30) B 4 dX3_believe_30 rfl rfl ?_
      obtain ⟨q5, hq, h⟩ := xbind h
      refine x_callV1 (st := []) (pc := 31) B dX3_believe_31 (eX0_change hq) xt_171 xt_54 np_X0_change hy_X0_change (Nat.le_of_ble_eq_true rfl) (Nat.le_of_ble_eq_true rfl) (Nat.le_of_ble_eq_true rfl) xt_169 xt_170 xt_168 rfl (iX0_change hq) rfl ?_
      exact x_iret (pc := 34) B hR dX3_believe_34 (xzI _) h
    · refine x_if_eq_f (pc := 11) B 17 dX3_believe_11 (by decide) hc ?_
      refine x_iload (pc := 14) B 0 dX3_believe_14 rfl ?_
      exact x_iret (pc := 16) B hR dX3_believe_16 (xzI _) h
  · exact absurd h (by simp)
def fX3_send (a0 : Nat) (i1 : Int32) (i2 : Int32) (w : XW) : Option (Int32 × XW) := if xis w a0 3 = true then
  (fX3_isWithin i1 (3 : Int32) w).bind fun q1 =>
  if q1.1 = (0 : Int32) then
    some ((-1 : Int32), q1.2)
  else
  (fX3_isWithin i2 (3 : Int32) q1.2).bind fun q2 =>
  if q2.1 = (0 : Int32) then
    some ((-1 : Int32), q2.2)
  else
  (fX3_record a0 q2.2).bind fun q3 =>
  (xgR q3 a0 3 0).bind fun v4 =>
  (fX0_messagePlace i1 q3).bind fun q5 =>
  (fX0_change v4 q5.1 i2 q5.2).bind fun q6 =>
  some (q6.1, q6.2)
  else none
theorem iX3_send {a0 : Nat} {i1 : Int32} {i2 : Int32} {w : XW} {R9 : (Int32 × XW)} (h : fX3_send a0 i1 i2 w = some R9) : xis w a0 3 = true := by
  unfold fX3_send at h
  rcases xite h with ⟨hc, h⟩ | ⟨hc, h⟩
  · exact hc
  · exact absurd h (by simp)
theorem np_X3_send : (parseMethodDescriptor yX3_send.desc).map (fun d => d.parameters.length) = some 2 := by decide +kernel
theorem hy_X3_send : yX3_send.cls ≠ "java/lang/invoke/MethodHandle" ∧ yX3_send.cls ≠ "java/lang/invoke/VarHandle" := ⟨by decide +kernel, by decide +kernel⟩
set_option maxRecDepth 20000 in
theorem eX3_send {cx : CX} {a0 : Nat} {i1 : Int32} {i2 : Int32} {w : XW} {R9 : (Int32 × XW)} (h : fX3_send a0 i1 i2 w = some R9) : Ct yX3_send cX3_send 3 (some .int) 3 82 cx [.ref a0, .int i1, .int i2] w (some (.int R9.1)) R9.2 := by
  refine Ct_of (by decide +kernel) (Nat.le_of_ble_eq_true rfl) (fun K B hR => ?_)
  rw [fX3_send] at h
  show Wx K cx 3 w.length 0 [(0, .ref a0), (1, .int i1), (2, .int i2)] [] w
  rcases xite h with ⟨hc, h⟩ | ⟨hc, h⟩
  · skip
    refine x_iload_n (pc := 0) B 1 dX3_send_0 rfl rfl ?_
    refine x_iconst (pc := 1) B dX3_send_1 xk_iconst_3 ?_
    obtain ⟨q1, hq, h⟩ := xbind h
    refine x_callS1 (st := []) (pc := 2) B dX3_send_2 (eX3_isWithin hq) xt_142 xt_53 np_X3_isWithin hy_X3_isWithin (Nat.le_of_ble_eq_true rfl) (Nat.le_of_ble_eq_true rfl) (Nat.le_of_ble_eq_true rfl) xt_141 xt_140 rfl ?_
    rcases xite h with ⟨hc, h⟩ | ⟨hc, h⟩
    · refine x_if_eq_t (tgt := 16) (pc := 5) B dX3_send_5 (by decide) hc ?_
      refine x_iconst (pc := 16) B dX3_send_16 xk_iconst_m1 ?_
      exact x_iret (pc := 17) B hR dX3_send_17 (xzI _) h
    · refine x_if_eq_f (pc := 5) B 16 dX3_send_5 (by decide) hc ?_
      refine x_iload_n (pc := 8) B 2 dX3_send_8 rfl rfl ?_
      refine x_iconst (pc := 9) B dX3_send_9 xk_iconst_3 ?_
      obtain ⟨q2, hq, h⟩ := xbind h
      refine x_callS1 (st := []) (pc := 10) B dX3_send_10 (eX3_isWithin hq) xt_142 xt_53 np_X3_isWithin hy_X3_isWithin (Nat.le_of_ble_eq_true rfl) (Nat.le_of_ble_eq_true rfl) (Nat.le_of_ble_eq_true rfl) xt_141 xt_140 rfl ?_
      rcases xite h with ⟨hc, h⟩ | ⟨hc, h⟩
      · refine x_if_ne_f (pc := 13) B 18 dX3_send_13 (by decide) hc ?_
        refine x_iconst (pc := 16) B dX3_send_16 xk_iconst_m1 ?_
        exact x_iret (pc := 17) B hR dX3_send_17 (xzI _) h
      · refine x_if_ne_t (tgt := 18) (pc := 13) B dX3_send_13 (by decide) hc ?_
        refine x_aload_n (pc := 18) B 0 dX3_send_18 rfl rfl ?_
        obtain ⟨q3, hq, h⟩ := xbind h
        refine x_callV0 (st := []) (pc := 19) B dX3_send_19 (eX3_record hq) xt_159 xt_53 np_X3_record hy_X3_record (Nat.le_of_ble_eq_true rfl) (Nat.le_of_ble_eq_true rfl) (Nat.le_of_ble_eq_true rfl) xt_158 xt_1 xt_156 rfl (iX3_record hq) rfl ?_
        refine x_aload_n (pc := 22) B 0 dX3_send_22 rfl rfl ?_
        obtain ⟨v4, hv, h⟩ := xbind h
        refine x_getR (k0 := 0) (pc := 23) B dX3_send_23 rfl xi_3 (by decide) ⟨rfl, rfl, rfl⟩ xt_117 hv ?_
        refine x_iload_n (pc := 26) B 1 dX3_send_26 rfl rfl ?_
        obtain ⟨q5, hq, h⟩ := xbind h
        refine x_callS1 (st := [.ref v4]) (pc := 27) B dX3_send_27 (eX0_messagePlace hq) xt_209 xt_54 np_X0_messagePlace hy_X0_messagePlace (Nat.le_of_ble_eq_true rfl) (Nat.le_of_ble_eq_true rfl) (Nat.le_of_ble_eq_true rfl) xt_208 xt_207 rfl ?_
        refine x_iload_n (pc := 30) B 2 dX3_send_30 rfl rfl ?_
        obtain ⟨q6, hq, h⟩ := xbind h
        refine x_callV1 (st := []) (pc := 31) B dX3_send_31 (eX0_change hq) xt_171 xt_54 np_X0_change hy_X0_change (Nat.le_of_ble_eq_true rfl) (Nat.le_of_ble_eq_true rfl) (Nat.le_of_ble_eq_true rfl) xt_169 xt_170 xt_168 rfl (iX0_change hq) rfl ?_
        exact x_iret (pc := 34) B hR dX3_send_34 (xzI _) h
  · exact absurd h (by simp)
def fX3_answer (a0 : Nat) (i1 : Int32) (i2 : Int32) (w : XW) : Option (Int32 × XW) := if xis w a0 3 = true then
  (fX3_isWithin i1 (3 : Int32) w).bind fun q1 =>
  if q1.1 = (0 : Int32) then
    some ((-1 : Int32), q1.2)
  else
  (fX3_isWithin i2 (3 : Int32) q1.2).bind fun q2 =>
  if q2.1 = (0 : Int32) then
    some ((-1 : Int32), q2.2)
  else
  (fX3_record a0 q2.2).bind fun q3 =>
  (xgR q3 a0 3 0).bind fun v4 =>
  (fX0_answerPlace i1 q3).bind fun q5 =>
  (fX0_change v4 q5.1 i2 q5.2).bind fun q6 =>
  some (q6.1, q6.2)
  else none
theorem iX3_answer {a0 : Nat} {i1 : Int32} {i2 : Int32} {w : XW} {R9 : (Int32 × XW)} (h : fX3_answer a0 i1 i2 w = some R9) : xis w a0 3 = true := by
  unfold fX3_answer at h
  rcases xite h with ⟨hc, h⟩ | ⟨hc, h⟩
  · exact hc
  · exact absurd h (by simp)
theorem np_X3_answer : (parseMethodDescriptor yX3_answer.desc).map (fun d => d.parameters.length) = some 2 := by decide +kernel
theorem hy_X3_answer : yX3_answer.cls ≠ "java/lang/invoke/MethodHandle" ∧ yX3_answer.cls ≠ "java/lang/invoke/VarHandle" := ⟨by decide +kernel, by decide +kernel⟩
set_option maxRecDepth 20000 in
theorem eX3_answer {cx : CX} {a0 : Nat} {i1 : Int32} {i2 : Int32} {w : XW} {R9 : (Int32 × XW)} (h : fX3_answer a0 i1 i2 w = some R9) : Ct yX3_answer cX3_answer 3 (some .int) 3 82 cx [.ref a0, .int i1, .int i2] w (some (.int R9.1)) R9.2 := by
  refine Ct_of (by decide +kernel) (Nat.le_of_ble_eq_true rfl) (fun K B hR => ?_)
  rw [fX3_answer] at h
  show Wx K cx 3 w.length 0 [(0, .ref a0), (1, .int i1), (2, .int i2)] [] w
  rcases xite h with ⟨hc, h⟩ | ⟨hc, h⟩
  · skip
    refine x_iload_n (pc := 0) B 1 dX3_answer_0 rfl rfl ?_
    refine x_iconst (pc := 1) B dX3_answer_1 xk_iconst_3 ?_
    obtain ⟨q1, hq, h⟩ := xbind h
    refine x_callS1 (st := []) (pc := 2) B dX3_answer_2 (eX3_isWithin hq) xt_142 xt_53 np_X3_isWithin hy_X3_isWithin (Nat.le_of_ble_eq_true rfl) (Nat.le_of_ble_eq_true rfl) (Nat.le_of_ble_eq_true rfl) xt_141 xt_140 rfl ?_
    rcases xite h with ⟨hc, h⟩ | ⟨hc, h⟩
    · refine x_if_eq_t (tgt := 16) (pc := 5) B dX3_answer_5 (by decide) hc ?_
      refine x_iconst (pc := 16) B dX3_answer_16 xk_iconst_m1 ?_
      exact x_iret (pc := 17) B hR dX3_answer_17 (xzI _) h
    · refine x_if_eq_f (pc := 5) B 16 dX3_answer_5 (by decide) hc ?_
      refine x_iload_n (pc := 8) B 2 dX3_answer_8 rfl rfl ?_
      refine x_iconst (pc := 9) B dX3_answer_9 xk_iconst_3 ?_
      obtain ⟨q2, hq, h⟩ := xbind h
      refine x_callS1 (st := []) (pc := 10) B dX3_answer_10 (eX3_isWithin hq) xt_142 xt_53 np_X3_isWithin hy_X3_isWithin (Nat.le_of_ble_eq_true rfl) (Nat.le_of_ble_eq_true rfl) (Nat.le_of_ble_eq_true rfl) xt_141 xt_140 rfl ?_
      rcases xite h with ⟨hc, h⟩ | ⟨hc, h⟩
      · refine x_if_ne_f (pc := 13) B 18 dX3_answer_13 (by decide) hc ?_
        refine x_iconst (pc := 16) B dX3_answer_16 xk_iconst_m1 ?_
        exact x_iret (pc := 17) B hR dX3_answer_17 (xzI _) h
      · refine x_if_ne_t (tgt := 18) (pc := 13) B dX3_answer_13 (by decide) hc ?_
        refine x_aload_n (pc := 18) B 0 dX3_answer_18 rfl rfl ?_
        obtain ⟨q3, hq, h⟩ := xbind h
        refine x_callV0 (st := []) (pc := 19) B dX3_answer_19 (eX3_record hq) xt_159 xt_53 np_X3_record hy_X3_record (Nat.le_of_ble_eq_true rfl) (Nat.le_of_ble_eq_true rfl) (Nat.le_of_ble_eq_true rfl) xt_158 xt_1 xt_156 rfl (iX3_record hq) rfl ?_
        refine x_aload_n (pc := 22) B 0 dX3_answer_22 rfl rfl ?_
        obtain ⟨v4, hv, h⟩ := xbind h
        refine x_getR (k0 := 0) (pc := 23) B dX3_answer_23 rfl xi_3 (by decide) ⟨rfl, rfl, rfl⟩ xt_117 hv ?_
        refine x_iload_n (pc := 26) B 1 dX3_answer_26 rfl rfl ?_
        obtain ⟨q5, hq, h⟩ := xbind h
        refine x_callS1 (st := [.ref v4]) (pc := 27) B dX3_answer_27 (eX0_answerPlace hq) xt_216 xt_54 np_X0_answerPlace hy_X0_answerPlace (Nat.le_of_ble_eq_true rfl) (Nat.le_of_ble_eq_true rfl) (Nat.le_of_ble_eq_true rfl) xt_215 xt_214 rfl ?_
        refine x_iload_n (pc := 30) B 2 dX3_answer_30 rfl rfl ?_
        obtain ⟨q6, hq, h⟩ := xbind h
        refine x_callV1 (st := []) (pc := 31) B dX3_answer_31 (eX0_change hq) xt_171 xt_54 np_X0_change hy_X0_change (Nat.le_of_ble_eq_true rfl) (Nat.le_of_ble_eq_true rfl) (Nat.le_of_ble_eq_true rfl) xt_169 xt_170 xt_168 rfl (iX0_change hq) rfl ?_
        exact x_iret (pc := 34) B hR dX3_answer_34 (xzI _) h
  · exact absurd h (by simp)
def fX3_adopt (a0 : Nat) (i1 : Int32) (w : XW) : Option (Int32 × XW) := if xis w a0 3 = true then
  (xgR w a0 3 1).bind fun v1 =>
  (xgR w a0 3 0).bind fun v2 =>
  (fX2_numberOf v1 v2 (0 : Int32) w).bind fun q3 =>
  (fX3_isWithin i1 q3.1 q3.2).bind fun q4 =>
  if q4.1 = (0 : Int32) then
    some ((-1 : Int32), q4.2)
  else
  (fX3_record a0 q4.2).bind fun q5 =>
  (xgR q5 a0 3 0).bind fun v6 =>
  (xgR q5 a0 3 1).bind fun v7 =>
  (fX2_codeAt v7 i1 q5).bind fun q8 =>
  (fX0_takePlan v6 q8.1 q8.2).bind fun q9 =>
  some (q3.1, q9)
  else none
theorem iX3_adopt {a0 : Nat} {i1 : Int32} {w : XW} {R9 : (Int32 × XW)} (h : fX3_adopt a0 i1 w = some R9) : xis w a0 3 = true := by
  unfold fX3_adopt at h
  rcases xite h with ⟨hc, h⟩ | ⟨hc, h⟩
  · exact hc
  · exact absurd h (by simp)
theorem np_X3_adopt : (parseMethodDescriptor yX3_adopt.desc).map (fun d => d.parameters.length) = some 1 := by decide +kernel
theorem hy_X3_adopt : yX3_adopt.cls ≠ "java/lang/invoke/MethodHandle" ∧ yX3_adopt.cls ≠ "java/lang/invoke/VarHandle" := ⟨by decide +kernel, by decide +kernel⟩
set_option maxRecDepth 20000 in
theorem eX3_adopt {cx : CX} {a0 : Nat} {i1 : Int32} {w : XW} {R9 : (Int32 × XW)} (h : fX3_adopt a0 i1 w = some R9) : Ct yX3_adopt cX3_adopt 3 (some .int) 7 180 cx [.ref a0, .int i1] w (some (.int R9.1)) R9.2 := by
  refine Ct_of (by decide +kernel) (Nat.le_of_ble_eq_true rfl) (fun K B hR => ?_)
  rw [fX3_adopt] at h
  show Wx K cx 3 w.length 0 [(0, .ref a0), (1, .int i1)] [] w
  rcases xite h with ⟨hc, h⟩ | ⟨hc, h⟩
  · skip
    refine x_aload_n (pc := 0) B 0 dX3_adopt_0 rfl rfl ?_
    obtain ⟨v1, hv, h⟩ := xbind h
    refine x_getR (k0 := 1) (pc := 1) B dX3_adopt_1 rfl xi_3 (by decide) ⟨rfl, rfl, rfl⟩ xt_118 hv ?_
    refine x_aload_n (pc := 4) B 0 dX3_adopt_4 rfl rfl ?_
    obtain ⟨v2, hv, h⟩ := xbind h
    refine x_getR (k0 := 0) (pc := 5) B dX3_adopt_5 rfl xi_3 (by decide) ⟨rfl, rfl, rfl⟩ xt_117 hv ?_
    refine x_iconst (pc := 8) B dX3_adopt_8 xk_iconst_0 ?_
    obtain ⟨q3, hq, h⟩ := xbind h
    refine x_callV1 (st := []) (pc := 9) B dX3_adopt_9 (eX2_numberOf hq) xt_224 xt_56 np_X2_numberOf hy_X2_numberOf (Nat.le_of_ble_eq_true rfl) (Nat.le_of_ble_eq_true rfl) (Nat.le_of_ble_eq_true rfl) xt_222 xt_223 xt_221 rfl (iX2_numberOf hq) rfl ?_
    refine x_istore_n (L1 := [(2, .int q3.1), (0, .ref a0), (1, .int i1)]) (pc := 12) B dX3_adopt_12 rfl (by decide) rfl ?_
    refine x_iload_n (pc := 13) B 2 dX3_adopt_13 rfl rfl ?_
    refine x_iload_n (pc := 14) B 0 dX3_adopt_14 rfl rfl ?_
    obtain ⟨q4, hq, h⟩ := xbind h
    refine x_callS1 (st := []) (pc := 15) B dX3_adopt_15 (eX3_isWithin hq) xt_142 xt_53 np_X3_isWithin hy_X3_isWithin (Nat.le_of_ble_eq_true rfl) (Nat.le_of_ble_eq_true rfl) (Nat.le_of_ble_eq_true rfl) xt_141 xt_140 rfl ?_
    rcases xite h with ⟨hc, h⟩ | ⟨hc, h⟩
    · refine x_if_ne_f (pc := 18) B 23 dX3_adopt_18 (by decide) hc ?_
      refine x_iconst (pc := 21) B dX3_adopt_21 xk_iconst_m1 ?_
      exact x_iret (pc := 22) B hR dX3_adopt_22 (xzI _) h
    · refine x_if_ne_t (tgt := 23) (pc := 18) B dX3_adopt_18 (by decide) hc ?_
      refine x_aload_n (pc := 23) B 1 dX3_adopt_23 rfl rfl ?_
      obtain ⟨q5, hq, h⟩ := xbind h
      refine x_callV0 (st := []) (pc := 24) B dX3_adopt_24 (eX3_record hq) xt_159 xt_53 np_X3_record hy_X3_record (Nat.le_of_ble_eq_true rfl) (Nat.le_of_ble_eq_true rfl) (Nat.le_of_ble_eq_true rfl) xt_158 xt_1 xt_156 rfl (iX3_record hq) rfl ?_
      refine x_aload_n (pc := 27) B 1 dX3_adopt_27 rfl rfl ?_
      obtain ⟨v6, hv, h⟩ := xbind h
      refine x_getR (k0 := 0) (pc := 28) B dX3_adopt_28 rfl xi_3 (by decide) ⟨rfl, rfl, rfl⟩ xt_117 hv ?_
      refine x_aload_n (pc := 31) B 1 dX3_adopt_31 rfl rfl ?_
      obtain ⟨v7, hv, h⟩ := xbind h
      refine x_getR (k0 := 1) (pc := 32) B dX3_adopt_32 rfl xi_3 (by decide) ⟨rfl, rfl, rfl⟩ xt_118 hv ?_
      refine x_iload_n (pc := 35) B 2 dX3_adopt_35 rfl rfl ?_
      obtain ⟨q8, hq, h⟩ := xbind h
      refine x_callV1 (st := [.ref v6]) (pc := 36) B dX3_adopt_36 (eX2_codeAt hq) xt_297 xt_56 np_X2_codeAt hy_X2_codeAt (Nat.le_of_ble_eq_true rfl) (Nat.le_of_ble_eq_true rfl) (Nat.le_of_ble_eq_true rfl) xt_295 xt_296 xt_342 rfl (iX2_codeAt hq) rfl ?_
      obtain ⟨q9, hq, h⟩ := xbind h
      refine x_callV0 (st := []) (pc := 39) B dX3_adopt_39 (eX0_takePlan hq) xt_249 xt_54 np_X0_takePlan hy_X0_takePlan (Nat.le_of_ble_eq_true rfl) (Nat.le_of_ble_eq_true rfl) (Nat.le_of_ble_eq_true rfl) xt_247 xt_248 xt_343 rfl (iX0_takePlan hq) rfl ?_
      refine x_iload_n (pc := 42) B 0 dX3_adopt_42 rfl rfl ?_
      exact x_iret (pc := 43) B hR dX3_adopt_43 (xzI _) h
  · exact absurd h (by simp)
def fX3_payoff_39 (a0 : Nat) (i1 : Int32) (i2 : Int32) (i3 : Int32) (i4 : Int32) (w : XW) : Option (Int32 × XW) :=
  (xgR w a0 3 0).bind fun v4 =>
  (fX0_payPlace i1 i2 i3 i4 w).bind fun q5 =>
  (fX0_cell v4 q5.1 q5.2).bind fun q6 =>
  some ((q6.1 + (100 : Int32)), q6.2)
set_option maxRecDepth 20000 in
theorem pX3_payoff_39 {K : KX} {cx : CX} {nn : Nat} {R9 : Int32 × XW} (B : XB K cx RX3 cX3_payoff 5 nn 1 23) (hR : XR K cx nn (some .int) (some (.int R9.1)) R9.2) : ∀ (a0 : Nat) (i1 : Int32) (i2 : Int32) (i3 : Int32) (i4 : Int32) (w : XW), fX3_payoff_39 a0 i1 i2 i3 i4 w = some R9 → Wx K cx 5 nn 39 [(0, .ref a0), (1, .int i1), (2, .int i2), (3, .int i3), (4, .int i4)] [] w := by
  intro a0 i1 i2 i3 i4 w h
  rw [fX3_payoff_39] at h
  refine x_aload_n (pc := 39) B 0 dX3_payoff_39 rfl rfl ?_
  obtain ⟨v4, hv, h⟩ := xbind h
  refine x_getR (k0 := 0) (pc := 40) B dX3_payoff_40 rfl xi_3 (by decide) ⟨rfl, rfl, rfl⟩ xt_117 hv ?_
  refine x_iload_n (pc := 43) B 1 dX3_payoff_43 rfl rfl ?_
  refine x_iload_n (pc := 44) B 2 dX3_payoff_44 rfl rfl ?_
  refine x_iload_n (pc := 45) B 3 dX3_payoff_45 rfl rfl ?_
  refine x_iload (pc := 46) B 4 dX3_payoff_46 rfl ?_
  obtain ⟨q5, hq, h⟩ := xbind h
  refine x_callS1 (st := [.ref v4]) (pc := 48) B dX3_payoff_48 (eX0_payPlace hq) xt_186 xt_54 np_X0_payPlace hy_X0_payPlace (Nat.le_of_ble_eq_true rfl) (Nat.le_of_ble_eq_true rfl) (Nat.le_of_ble_eq_true rfl) xt_185 xt_184 rfl ?_
  obtain ⟨q6, hq, h⟩ := xbind h
  refine x_callV1 (st := []) (pc := 51) B dX3_payoff_51 (eX0_cell hq) xt_153 xt_54 np_X0_cell hy_X0_cell (Nat.le_of_ble_eq_true rfl) (Nat.le_of_ble_eq_true rfl) (Nat.le_of_ble_eq_true rfl) xt_151 xt_152 xt_155 rfl (iX0_cell hq) rfl ?_
  refine x_bipush (pc := 54) B dX3_payoff_54 xk_bipush_100 ?_
  refine x_iadd (pc := 56) B dX3_payoff_56 ?_
  exact x_iret (pc := 57) B hR dX3_payoff_57 (xzI _) h
def fX3_payoff (a0 : Nat) (i1 : Int32) (i2 : Int32) (i3 : Int32) (i4 : Int32) (w : XW) : Option (Int32 × XW) := if xis w a0 3 = true then
  (fX3_isWithin i2 (3 : Int32) w).bind fun q1 =>
  if q1.1 = (0 : Int32) then
    some ((-1 : Int32), q1.2)
  else
  (fX3_isWithin i3 (3 : Int32) q1.2).bind fun q2 =>
  if q2.1 = (0 : Int32) then
    some ((-1 : Int32), q2.2)
  else
  (fX3_isWithin i4 (3 : Int32) q2.2).bind fun q3 =>
  if q3.1 = (0 : Int32) then
    some ((-1 : Int32), q3.2)
  else
  if i1 = (0 : Int32) then
    fX3_payoff_39 a0 i1 i2 i3 i4 q3.2
  else
  if i1 = (1 : Int32) then
    fX3_payoff_39 a0 i1 i2 i3 i4 q3.2
  else
  some ((-2 : Int32), q3.2)
  else none
theorem iX3_payoff {a0 : Nat} {i1 : Int32} {i2 : Int32} {i3 : Int32} {i4 : Int32} {w : XW} {R9 : (Int32 × XW)} (h : fX3_payoff a0 i1 i2 i3 i4 w = some R9) : xis w a0 3 = true := by
  unfold fX3_payoff at h
  rcases xite h with ⟨hc, h⟩ | ⟨hc, h⟩
  · exact hc
  · exact absurd h (by simp)
theorem np_X3_payoff : (parseMethodDescriptor yX3_payoff.desc).map (fun d => d.parameters.length) = some 4 := by decide +kernel
theorem hy_X3_payoff : yX3_payoff.cls ≠ "java/lang/invoke/MethodHandle" ∧ yX3_payoff.cls ≠ "java/lang/invoke/VarHandle" := ⟨by decide +kernel, by decide +kernel⟩
set_option maxRecDepth 20000 in
theorem eX3_payoff {cx : CX} {a0 : Nat} {i1 : Int32} {i2 : Int32} {i3 : Int32} {i4 : Int32} {w : XW} {R9 : (Int32 × XW)} (h : fX3_payoff a0 i1 i2 i3 i4 w = some R9) : Ct yX3_payoff cX3_payoff 5 (some .int) 1 23 cx [.ref a0, .int i1, .int i2, .int i3, .int i4] w (some (.int R9.1)) R9.2 := by
  refine Ct_of (by decide +kernel) (Nat.le_of_ble_eq_true rfl) (fun K B hR => ?_)
  rw [fX3_payoff] at h
  show Wx K cx 5 w.length 0 [(0, .ref a0), (1, .int i1), (2, .int i2), (3, .int i3), (4, .int i4)] [] w
  rcases xite h with ⟨hc, h⟩ | ⟨hc, h⟩
  · skip
    refine x_iload_n (pc := 0) B 2 dX3_payoff_0 rfl rfl ?_
    refine x_iconst (pc := 1) B dX3_payoff_1 xk_iconst_3 ?_
    obtain ⟨q1, hq, h⟩ := xbind h
    refine x_callS1 (st := []) (pc := 2) B dX3_payoff_2 (eX3_isWithin hq) xt_142 xt_53 np_X3_isWithin hy_X3_isWithin (Nat.le_of_ble_eq_true rfl) (Nat.le_of_ble_eq_true rfl) (Nat.le_of_ble_eq_true rfl) xt_141 xt_140 rfl ?_
    rcases xite h with ⟨hc, h⟩ | ⟨hc, h⟩
    · refine x_if_eq_t (tgt := 25) (pc := 5) B dX3_payoff_5 (by decide) hc ?_
      refine x_iconst (pc := 25) B dX3_payoff_25 xk_iconst_m1 ?_
      exact x_iret (pc := 26) B hR dX3_payoff_26 (xzI _) h
    · refine x_if_eq_f (pc := 5) B 25 dX3_payoff_5 (by decide) hc ?_
      refine x_iload_n (pc := 8) B 3 dX3_payoff_8 rfl rfl ?_
      refine x_iconst (pc := 9) B dX3_payoff_9 xk_iconst_3 ?_
      obtain ⟨q2, hq, h⟩ := xbind h
      refine x_callS1 (st := []) (pc := 10) B dX3_payoff_10 (eX3_isWithin hq) xt_142 xt_53 np_X3_isWithin hy_X3_isWithin (Nat.le_of_ble_eq_true rfl) (Nat.le_of_ble_eq_true rfl) (Nat.le_of_ble_eq_true rfl) xt_141 xt_140 rfl ?_
      rcases xite h with ⟨hc, h⟩ | ⟨hc, h⟩
      · refine x_if_eq_t (tgt := 25) (pc := 13) B dX3_payoff_13 (by decide) hc ?_
        refine x_iconst (pc := 25) B dX3_payoff_25 xk_iconst_m1 ?_
        exact x_iret (pc := 26) B hR dX3_payoff_26 (xzI _) h
      · refine x_if_eq_f (pc := 13) B 25 dX3_payoff_13 (by decide) hc ?_
        refine x_iload (pc := 16) B 4 dX3_payoff_16 rfl ?_
        refine x_iconst (pc := 18) B dX3_payoff_18 xk_iconst_3 ?_
        obtain ⟨q3, hq, h⟩ := xbind h
        refine x_callS1 (st := []) (pc := 19) B dX3_payoff_19 (eX3_isWithin hq) xt_142 xt_53 np_X3_isWithin hy_X3_isWithin (Nat.le_of_ble_eq_true rfl) (Nat.le_of_ble_eq_true rfl) (Nat.le_of_ble_eq_true rfl) xt_141 xt_140 rfl ?_
        rcases xite h with ⟨hc, h⟩ | ⟨hc, h⟩
        · refine x_if_ne_f (pc := 22) B 27 dX3_payoff_22 (by decide) hc ?_
          refine x_iconst (pc := 25) B dX3_payoff_25 xk_iconst_m1 ?_
          exact x_iret (pc := 26) B hR dX3_payoff_26 (xzI _) h
        · refine x_if_ne_t (tgt := 27) (pc := 22) B dX3_payoff_22 (by decide) hc ?_
          refine x_iload_n (pc := 27) B 1 dX3_payoff_27 rfl rfl ?_
          rcases xite h with ⟨hc, h⟩ | ⟨hc, h⟩
          · refine x_if_eq_t (tgt := 39) (pc := 28) B dX3_payoff_28 (by decide) hc ?_
            exact pX3_payoff_39 B hR a0 i1 i2 i3 i4 q3.2 h
          · refine x_if_eq_f (pc := 28) B 39 dX3_payoff_28 (by decide) hc ?_
            refine x_iload_n (pc := 31) B 1 dX3_payoff_31 rfl rfl ?_
            refine x_iconst (pc := 32) B dX3_payoff_32 xk_iconst_1 ?_
            rcases xite h with ⟨hc, h⟩ | ⟨hc, h⟩
            · refine x_icmp_eq_t (tgt := 39) (pc := 33) B dX3_payoff_33 (by decide) hc ?_
              exact pX3_payoff_39 B hR a0 i1 i2 i3 i4 q3.2 h
            · refine x_icmp_eq_f (pc := 33) B 39 dX3_payoff_33 (by decide) hc ?_
              refine x_bipush (pc := 36) B dX3_payoff_36 xk_bipush_m2 ?_
              exact x_iret (pc := 38) B hR dX3_payoff_38 (xzI _) h
  · exact absurd h (by simp)
def fX3_ofType (a0 : Nat) (i1 : Int32) (i2 : Int32) (w : XW) : Option (Int32 × XW) := if xis w a0 3 = true then
  (fX3_isWithin i1 (3 : Int32) w).bind fun q1 =>
  if q1.1 = (0 : Int32) then
    some ((-1 : Int32), q1.2)
  else
  if i2 = (0 : Int32) then
    (xgR q1.2 a0 3 0).bind fun v2 =>
    (fX0_weightPlace i1 q1.2).bind fun q3 =>
    (fX0_cell v2 q3.1 q3.2).bind fun q4 =>
    some (q4.1, q4.2)
  else
  if i2 = (1 : Int32) then
    (xgR q1.2 a0 3 0).bind fun v5 =>
    (fX0_messagePlace i1 q1.2).bind fun q6 =>
    (fX0_cell v5 q6.1 q6.2).bind fun q7 =>
    some (q7.1, q7.2)
  else
  if i2 = (2 : Int32) then
    (xgR q1.2 a0 3 0).bind fun v8 =>
    (fX0_ownPayoff v8 i1 q1.2).bind fun q9 =>
    some ((q9.1 + (100 : Int32)), q9.2)
  else
  if i2 = (3 : Int32) then
    (xgR q1.2 a0 3 0).bind fun v10 =>
    (fX0_dearestMessage v10 i1 q1.2).bind fun q11 =>
    some (q11.1, q11.2)
  else
  if i2 = (4 : Int32) then
    (xgR q1.2 a0 3 0).bind fun v12 =>
    (xgR q1.2 a0 3 0).bind fun v13 =>
    (fX0_dearestMessage v13 i1 q1.2).bind fun q14 =>
    (fX0_payoffBy v12 i1 q14.1 q14.2).bind fun q15 =>
    (xgR q15.2 a0 3 0).bind fun v16 =>
    (fX0_ownPayoff v16 i1 q15.2).bind fun q17 =>
    some ((q15.1 - q17.1), q17.2)
  else
  some ((-2 : Int32), q1.2)
  else none
theorem iX3_ofType {a0 : Nat} {i1 : Int32} {i2 : Int32} {w : XW} {R9 : (Int32 × XW)} (h : fX3_ofType a0 i1 i2 w = some R9) : xis w a0 3 = true := by
  unfold fX3_ofType at h
  rcases xite h with ⟨hc, h⟩ | ⟨hc, h⟩
  · exact hc
  · exact absurd h (by simp)
theorem np_X3_ofType : (parseMethodDescriptor yX3_ofType.desc).map (fun d => d.parameters.length) = some 2 := by decide +kernel
theorem hy_X3_ofType : yX3_ofType.cls ≠ "java/lang/invoke/MethodHandle" ∧ yX3_ofType.cls ≠ "java/lang/invoke/VarHandle" := ⟨by decide +kernel, by decide +kernel⟩
set_option maxRecDepth 20000 in
theorem eX3_ofType {cx : CX} {a0 : Nat} {i1 : Int32} {i2 : Int32} {w : XW} {R9 : (Int32 × XW)} (h : fX3_ofType a0 i1 i2 w = some R9) : Ct yX3_ofType cX3_ofType 3 (some .int) 3 68 cx [.ref a0, .int i1, .int i2] w (some (.int R9.1)) R9.2 := by
  refine Ct_of (by decide +kernel) (Nat.le_of_ble_eq_true rfl) (fun K B hR => ?_)
  rw [fX3_ofType] at h
  show Wx K cx 3 w.length 0 [(0, .ref a0), (1, .int i1), (2, .int i2)] [] w
  rcases xite h with ⟨hc, h⟩ | ⟨hc, h⟩
  · skip
    refine x_iload_n (pc := 0) B 1 dX3_ofType_0 rfl rfl ?_
    refine x_iconst (pc := 1) B dX3_ofType_1 xk_iconst_3 ?_
    obtain ⟨q1, hq, h⟩ := xbind h
    refine x_callS1 (st := []) (pc := 2) B dX3_ofType_2 (eX3_isWithin hq) xt_142 xt_53 np_X3_isWithin hy_X3_isWithin (Nat.le_of_ble_eq_true rfl) (Nat.le_of_ble_eq_true rfl) (Nat.le_of_ble_eq_true rfl) xt_141 xt_140 rfl ?_
    rcases xite h with ⟨hc, h⟩ | ⟨hc, h⟩
    · refine x_if_ne_f (pc := 5) B 10 dX3_ofType_5 (by decide) hc ?_
      refine x_iconst (pc := 8) B dX3_ofType_8 xk_iconst_m1 ?_
      exact x_iret (pc := 9) B hR dX3_ofType_9 (xzI _) h
    · refine x_if_ne_t (tgt := 10) (pc := 5) B dX3_ofType_5 (by decide) hc ?_
      refine x_iload_n (pc := 10) B 2 dX3_ofType_10 rfl rfl ?_
      rcases xite h with ⟨hc0, h⟩ | ⟨hc0, h⟩
      · refine x_tabIn (tgt := 44) (off := 33) (pc := 11) B dX3_ofType_11 (by rw [hc0]; decide +kernel) (by rw [hc0]; decide +kernel) (by rw [hc0]; decide +kernel) (by decide) ?_
        refine x_aload_n (pc := 44) B 0 dX3_ofType_44 rfl rfl ?_
        obtain ⟨v2, hv, h⟩ := xbind h
        refine x_getR (k0 := 0) (pc := 45) B dX3_ofType_45 rfl xi_3 (by decide) ⟨rfl, rfl, rfl⟩ xt_117 hv ?_
        refine x_iload_n (pc := 48) B 1 dX3_ofType_48 rfl rfl ?_
        obtain ⟨q3, hq, h⟩ := xbind h
        refine x_callS1 (st := [.ref v2]) (pc := 49) B dX3_ofType_49 (eX0_weightPlace hq) xt_149 xt_54 np_X0_weightPlace hy_X0_weightPlace (Nat.le_of_ble_eq_true rfl) (Nat.le_of_ble_eq_true rfl) (Nat.le_of_ble_eq_true rfl) xt_148 xt_154 rfl ?_
        obtain ⟨q4, hq, h⟩ := xbind h
        refine x_callV1 (st := []) (pc := 52) B dX3_ofType_52 (eX0_cell hq) xt_153 xt_54 np_X0_cell hy_X0_cell (Nat.le_of_ble_eq_true rfl) (Nat.le_of_ble_eq_true rfl) (Nat.le_of_ble_eq_true rfl) xt_151 xt_152 xt_155 rfl (iX0_cell hq) rfl ?_
        exact x_iret (pc := 55) B hR dX3_ofType_55 (xzI _) h
      · skip
        rcases xite h with ⟨hc1, h⟩ | ⟨hc1, h⟩
        · refine x_tabIn (tgt := 56) (off := 45) (pc := 11) B dX3_ofType_11 (by rw [hc1]; decide +kernel) (by rw [hc1]; decide +kernel) (by rw [hc1]; decide +kernel) (by decide) ?_
          refine x_aload_n (pc := 56) B 0 dX3_ofType_56 rfl rfl ?_
          obtain ⟨v5, hv, h⟩ := xbind h
          refine x_getR (k0 := 0) (pc := 57) B dX3_ofType_57 rfl xi_3 (by decide) ⟨rfl, rfl, rfl⟩ xt_117 hv ?_
          refine x_iload_n (pc := 60) B 1 dX3_ofType_60 rfl rfl ?_
          obtain ⟨q6, hq, h⟩ := xbind h
          refine x_callS1 (st := [.ref v5]) (pc := 61) B dX3_ofType_61 (eX0_messagePlace hq) xt_209 xt_54 np_X0_messagePlace hy_X0_messagePlace (Nat.le_of_ble_eq_true rfl) (Nat.le_of_ble_eq_true rfl) (Nat.le_of_ble_eq_true rfl) xt_208 xt_207 rfl ?_
          obtain ⟨q7, hq, h⟩ := xbind h
          refine x_callV1 (st := []) (pc := 64) B dX3_ofType_64 (eX0_cell hq) xt_153 xt_54 np_X0_cell hy_X0_cell (Nat.le_of_ble_eq_true rfl) (Nat.le_of_ble_eq_true rfl) (Nat.le_of_ble_eq_true rfl) xt_151 xt_152 xt_155 rfl (iX0_cell hq) rfl ?_
          exact x_iret (pc := 67) B hR dX3_ofType_67 (xzI _) h
        · skip
          rcases xite h with ⟨hc2, h⟩ | ⟨hc2, h⟩
          · refine x_tabIn (tgt := 68) (off := 57) (pc := 11) B dX3_ofType_11 (by rw [hc2]; decide +kernel) (by rw [hc2]; decide +kernel) (by rw [hc2]; decide +kernel) (by decide) ?_
            refine x_aload_n (pc := 68) B 0 dX3_ofType_68 rfl rfl ?_
            obtain ⟨v8, hv, h⟩ := xbind h
            refine x_getR (k0 := 0) (pc := 69) B dX3_ofType_69 rfl xi_3 (by decide) ⟨rfl, rfl, rfl⟩ xt_117 hv ?_
            refine x_iload_n (pc := 72) B 1 dX3_ofType_72 rfl rfl ?_
            obtain ⟨q9, hq, h⟩ := xbind h
            refine x_callV1 (st := []) (pc := 73) B dX3_ofType_73 (eX0_ownPayoff hq) xt_292 xt_54 np_X0_ownPayoff hy_X0_ownPayoff (Nat.le_of_ble_eq_true rfl) (Nat.le_of_ble_eq_true rfl) (Nat.le_of_ble_eq_true rfl) xt_290 xt_291 xt_352 rfl (iX0_ownPayoff hq) rfl ?_
            refine x_bipush (pc := 76) B dX3_ofType_76 xk_bipush_100 ?_
            refine x_iadd (pc := 78) B dX3_ofType_78 ?_
            exact x_iret (pc := 79) B hR dX3_ofType_79 (xzI _) h
          · skip
            rcases xite h with ⟨hc3, h⟩ | ⟨hc3, h⟩
            · refine x_tabIn (tgt := 80) (off := 69) (pc := 11) B dX3_ofType_11 (by rw [hc3]; decide +kernel) (by rw [hc3]; decide +kernel) (by rw [hc3]; decide +kernel) (by decide) ?_
              refine x_aload_n (pc := 80) B 0 dX3_ofType_80 rfl rfl ?_
              obtain ⟨v10, hv, h⟩ := xbind h
              refine x_getR (k0 := 0) (pc := 81) B dX3_ofType_81 rfl xi_3 (by decide) ⟨rfl, rfl, rfl⟩ xt_117 hv ?_
              refine x_iload_n (pc := 84) B 1 dX3_ofType_84 rfl rfl ?_
              obtain ⟨q11, hq, h⟩ := xbind h
              refine x_callV1 (st := []) (pc := 85) B dX3_ofType_85 (eX0_dearestMessage hq) xt_283 xt_54 np_X0_dearestMessage hy_X0_dearestMessage (Nat.le_of_ble_eq_true rfl) (Nat.le_of_ble_eq_true rfl) (Nat.le_of_ble_eq_true rfl) xt_281 xt_282 xt_353 rfl (iX0_dearestMessage hq) rfl ?_
              exact x_iret (pc := 88) B hR dX3_ofType_88 (xzI _) h
            · skip
              rcases xite h with ⟨hc4, h⟩ | ⟨hc4, h⟩
              · refine x_tabIn (tgt := 89) (off := 78) (pc := 11) B dX3_ofType_11 (by rw [hc4]; decide +kernel) (by rw [hc4]; decide +kernel) (by rw [hc4]; decide +kernel) (by decide) ?_
                refine x_aload_n (pc := 89) B 0 dX3_ofType_89 rfl rfl ?_
                obtain ⟨v12, hv, h⟩ := xbind h
                refine x_getR (k0 := 0) (pc := 90) B dX3_ofType_90 rfl xi_3 (by decide) ⟨rfl, rfl, rfl⟩ xt_117 hv ?_
                refine x_iload_n (pc := 93) B 1 dX3_ofType_93 rfl rfl ?_
                refine x_aload_n (pc := 94) B 0 dX3_ofType_94 rfl rfl ?_
                obtain ⟨v13, hv, h⟩ := xbind h
                refine x_getR (k0 := 0) (pc := 95) B dX3_ofType_95 rfl xi_3 (by decide) ⟨rfl, rfl, rfl⟩ xt_117 hv ?_
                refine x_iload_n (pc := 98) B 1 dX3_ofType_98 rfl rfl ?_
                obtain ⟨q14, hq, h⟩ := xbind h
                refine x_callV1 (st := [.int i1, .ref v12]) (pc := 99) B dX3_ofType_99 (eX0_dearestMessage hq) xt_283 xt_54 np_X0_dearestMessage hy_X0_dearestMessage (Nat.le_of_ble_eq_true rfl) (Nat.le_of_ble_eq_true rfl) (Nat.le_of_ble_eq_true rfl) xt_281 xt_282 xt_353 rfl (iX0_dearestMessage hq) rfl ?_
                obtain ⟨q15, hq, h⟩ := xbind h
                refine x_callV1 (st := []) (pc := 102) B dX3_ofType_102 (eX0_payoffBy hq) xt_287 xt_54 np_X0_payoffBy hy_X0_payoffBy (Nat.le_of_ble_eq_true rfl) (Nat.le_of_ble_eq_true rfl) (Nat.le_of_ble_eq_true rfl) xt_285 xt_286 xt_354 rfl (iX0_payoffBy hq) rfl ?_
                refine x_aload_n (pc := 105) B 0 dX3_ofType_105 rfl rfl ?_
                obtain ⟨v16, hv, h⟩ := xbind h
                refine x_getR (k0 := 0) (pc := 106) B dX3_ofType_106 rfl xi_3 (by decide) ⟨rfl, rfl, rfl⟩ xt_117 hv ?_
                refine x_iload_n (pc := 109) B 1 dX3_ofType_109 rfl rfl ?_
                obtain ⟨q17, hq, h⟩ := xbind h
                refine x_callV1 (st := [.int q15.1]) (pc := 110) B dX3_ofType_110 (eX0_ownPayoff hq) xt_292 xt_54 np_X0_ownPayoff hy_X0_ownPayoff (Nat.le_of_ble_eq_true rfl) (Nat.le_of_ble_eq_true rfl) (Nat.le_of_ble_eq_true rfl) xt_290 xt_291 xt_352 rfl (iX0_ownPayoff hq) rfl ?_
                refine x_isub (pc := 113) B dX3_ofType_113 ?_
                exact x_iret (pc := 114) B hR dX3_ofType_114 (xzI _) h
              · skip
                refine x_tabOut (tgt := 115) (pc := 11) B dX3_ofType_11 ?_ (by decide) ?_
                · have hz0 := lv_neT hc0 (a := 0) (by decide +kernel)
                  have hz1 := lv_neT hc1 (a := 1) (by decide +kernel)
                  have hz2 := lv_neT hc2 (a := 2) (by decide +kernel)
                  have hz3 := lv_neT hc3 (a := 3) (by decide +kernel)
                  have hz4 := lv_neT hc4 (a := 4) (by decide +kernel)
                  omega
                refine x_bipush (pc := 115) B dX3_ofType_115 xk_bipush_m2 ?_
                exact x_iret (pc := 117) B hR dX3_ofType_117 (xzI _) h
  · exact absurd h (by simp)
def fX3_ofMessage (a0 : Nat) (i1 : Int32) (i2 : Int32) (w : XW) : Option (Int32 × XW) := if xis w a0 3 = true then
  (fX3_isWithin i1 (3 : Int32) w).bind fun q1 =>
  if q1.1 = (0 : Int32) then
    some ((-1 : Int32), q1.2)
  else
  if i2 = (0 : Int32) then
    (xgR q1.2 a0 3 0).bind fun v2 =>
    (fX0_sendersOf v2 i1 q1.2).bind fun q3 =>
    if q3.1 = (0 : Int32) then
      some ((0 : Int32), q3.2)
    else
    some ((1 : Int32), q3.2)
  else
  if i2 = (1 : Int32) then
    (xgR q1.2 a0 3 0).bind fun v4 =>
    (fX0_answerPlace i1 q1.2).bind fun q5 =>
    (fX0_cell v4 q5.1 q5.2).bind fun q6 =>
    some (q6.1, q6.2)
  else
  if i2 = (2 : Int32) then
    (xgR q1.2 a0 3 0).bind fun v7 =>
    (fX0_bestActions v7 i1 q1.2).bind fun q8 =>
    some (q8.1, q8.2)
  else
  if i2 = (3 : Int32) then
    (xgR q1.2 a0 3 0).bind fun v9 =>
    (fX0_sendersOf v9 i1 q1.2).bind fun q10 =>
    some (q10.1, q10.2)
  else
  if i2 = (4 : Int32) then
    (xgR q1.2 a0 3 0).bind fun v11 =>
    (fX0_neverSenders v11 i1 q1.2).bind fun q12 =>
    some (q12.1, q12.2)
  else
  if i2 = (5 : Int32) then
    (xgR q1.2 a0 3 0).bind fun v13 =>
    (xgR q1.2 a0 3 0).bind fun v14 =>
    (fX0_typesThere v14 q1.2).bind fun q15 =>
    (fX0_possibleActions v13 i1 q15.1 q15.2).bind fun q16 =>
    some (q16.1, q16.2)
  else
  some ((-2 : Int32), q1.2)
  else none
theorem iX3_ofMessage {a0 : Nat} {i1 : Int32} {i2 : Int32} {w : XW} {R9 : (Int32 × XW)} (h : fX3_ofMessage a0 i1 i2 w = some R9) : xis w a0 3 = true := by
  unfold fX3_ofMessage at h
  rcases xite h with ⟨hc, h⟩ | ⟨hc, h⟩
  · exact hc
  · exact absurd h (by simp)
theorem np_X3_ofMessage : (parseMethodDescriptor yX3_ofMessage.desc).map (fun d => d.parameters.length) = some 2 := by decide +kernel
theorem hy_X3_ofMessage : yX3_ofMessage.cls ≠ "java/lang/invoke/MethodHandle" ∧ yX3_ofMessage.cls ≠ "java/lang/invoke/VarHandle" := ⟨by decide +kernel, by decide +kernel⟩
set_option maxRecDepth 20000 in
theorem eX3_ofMessage {cx : CX} {a0 : Nat} {i1 : Int32} {i2 : Int32} {w : XW} {R9 : (Int32 × XW)} (h : fX3_ofMessage a0 i1 i2 w = some R9) : Ct yX3_ofMessage cX3_ofMessage 3 (some .int) 5 131 cx [.ref a0, .int i1, .int i2] w (some (.int R9.1)) R9.2 := by
  refine Ct_of (by decide +kernel) (Nat.le_of_ble_eq_true rfl) (fun K B hR => ?_)
  rw [fX3_ofMessage] at h
  show Wx K cx 3 w.length 0 [(0, .ref a0), (1, .int i1), (2, .int i2)] [] w
  rcases xite h with ⟨hc, h⟩ | ⟨hc, h⟩
  · skip
    refine x_iload_n (pc := 0) B 1 dX3_ofMessage_0 rfl rfl ?_
    refine x_iconst (pc := 1) B dX3_ofMessage_1 xk_iconst_3 ?_
    obtain ⟨q1, hq, h⟩ := xbind h
    refine x_callS1 (st := []) (pc := 2) B dX3_ofMessage_2 (eX3_isWithin hq) xt_142 xt_53 np_X3_isWithin hy_X3_isWithin (Nat.le_of_ble_eq_true rfl) (Nat.le_of_ble_eq_true rfl) (Nat.le_of_ble_eq_true rfl) xt_141 xt_140 rfl ?_
    rcases xite h with ⟨hc, h⟩ | ⟨hc, h⟩
    · refine x_if_ne_f (pc := 5) B 10 dX3_ofMessage_5 (by decide) hc ?_
      refine x_iconst (pc := 8) B dX3_ofMessage_8 xk_iconst_m1 ?_
      exact x_iret (pc := 9) B hR dX3_ofMessage_9 (xzI _) h
    · refine x_if_ne_t (tgt := 10) (pc := 5) B dX3_ofMessage_5 (by decide) hc ?_
      refine x_iload_n (pc := 10) B 2 dX3_ofMessage_10 rfl rfl ?_
      rcases xite h with ⟨hc0, h⟩ | ⟨hc0, h⟩
      · refine x_tabIn (tgt := 48) (off := 37) (pc := 11) B dX3_ofMessage_11 (by rw [hc0]; decide +kernel) (by rw [hc0]; decide +kernel) (by rw [hc0]; decide +kernel) (by decide) ?_
        refine x_aload_n (pc := 48) B 0 dX3_ofMessage_48 rfl rfl ?_
        obtain ⟨v2, hv, h⟩ := xbind h
        refine x_getR (k0 := 0) (pc := 49) B dX3_ofMessage_49 rfl xi_3 (by decide) ⟨rfl, rfl, rfl⟩ xt_117 hv ?_
        refine x_iload_n (pc := 52) B 1 dX3_ofMessage_52 rfl rfl ?_
        obtain ⟨q3, hq, h⟩ := xbind h
        refine x_callV1 (st := []) (pc := 53) B dX3_ofMessage_53 (eX0_sendersOf hq) xt_261 xt_54 np_X0_sendersOf hy_X0_sendersOf (Nat.le_of_ble_eq_true rfl) (Nat.le_of_ble_eq_true rfl) (Nat.le_of_ble_eq_true rfl) xt_259 xt_260 xt_359 rfl (iX0_sendersOf hq) rfl ?_
        rcases xite h with ⟨hc, h⟩ | ⟨hc, h⟩
        · refine x_if_eq_t (tgt := 63) (pc := 56) B dX3_ofMessage_56 (by decide) hc ?_
          refine x_iconst (pc := 63) B dX3_ofMessage_63 xk_iconst_0 ?_
          exact x_iret (pc := 64) B hR dX3_ofMessage_64 (xzI _) h
        · refine x_if_eq_f (pc := 56) B 63 dX3_ofMessage_56 (by decide) hc ?_
          refine x_iconst (pc := 59) B dX3_ofMessage_59 xk_iconst_1 ?_
          refine x_goto (tgt := 64) (pc := 60) B dX3_ofMessage_60 (by decide) ?_
          exact x_iret (pc := 64) B hR dX3_ofMessage_64 (xzI _) h
      · skip
        rcases xite h with ⟨hc1, h⟩ | ⟨hc1, h⟩
        · refine x_tabIn (tgt := 65) (off := 54) (pc := 11) B dX3_ofMessage_11 (by rw [hc1]; decide +kernel) (by rw [hc1]; decide +kernel) (by rw [hc1]; decide +kernel) (by decide) ?_
          refine x_aload_n (pc := 65) B 0 dX3_ofMessage_65 rfl rfl ?_
          obtain ⟨v4, hv, h⟩ := xbind h
          refine x_getR (k0 := 0) (pc := 66) B dX3_ofMessage_66 rfl xi_3 (by decide) ⟨rfl, rfl, rfl⟩ xt_117 hv ?_
          refine x_iload_n (pc := 69) B 1 dX3_ofMessage_69 rfl rfl ?_
          obtain ⟨q5, hq, h⟩ := xbind h
          refine x_callS1 (st := [.ref v4]) (pc := 70) B dX3_ofMessage_70 (eX0_answerPlace hq) xt_216 xt_54 np_X0_answerPlace hy_X0_answerPlace (Nat.le_of_ble_eq_true rfl) (Nat.le_of_ble_eq_true rfl) (Nat.le_of_ble_eq_true rfl) xt_215 xt_214 rfl ?_
          obtain ⟨q6, hq, h⟩ := xbind h
          refine x_callV1 (st := []) (pc := 73) B dX3_ofMessage_73 (eX0_cell hq) xt_153 xt_54 np_X0_cell hy_X0_cell (Nat.le_of_ble_eq_true rfl) (Nat.le_of_ble_eq_true rfl) (Nat.le_of_ble_eq_true rfl) xt_151 xt_152 xt_155 rfl (iX0_cell hq) rfl ?_
          exact x_iret (pc := 76) B hR dX3_ofMessage_76 (xzI _) h
        · skip
          rcases xite h with ⟨hc2, h⟩ | ⟨hc2, h⟩
          · refine x_tabIn (tgt := 77) (off := 66) (pc := 11) B dX3_ofMessage_11 (by rw [hc2]; decide +kernel) (by rw [hc2]; decide +kernel) (by rw [hc2]; decide +kernel) (by decide) ?_
            refine x_aload_n (pc := 77) B 0 dX3_ofMessage_77 rfl rfl ?_
            obtain ⟨v7, hv, h⟩ := xbind h
            refine x_getR (k0 := 0) (pc := 78) B dX3_ofMessage_78 rfl xi_3 (by decide) ⟨rfl, rfl, rfl⟩ xt_117 hv ?_
            refine x_iload_n (pc := 81) B 1 dX3_ofMessage_81 rfl rfl ?_
            obtain ⟨q8, hq, h⟩ := xbind h
            refine x_callV1 (st := []) (pc := 82) B dX3_ofMessage_82 (eX0_bestActions hq) xt_253 xt_54 np_X0_bestActions hy_X0_bestActions (Nat.le_of_ble_eq_true rfl) (Nat.le_of_ble_eq_true rfl) (Nat.le_of_ble_eq_true rfl) xt_251 xt_252 xt_360 rfl (iX0_bestActions hq) rfl ?_
            exact x_iret (pc := 85) B hR dX3_ofMessage_85 (xzI _) h
          · skip
            rcases xite h with ⟨hc3, h⟩ | ⟨hc3, h⟩
            · refine x_tabIn (tgt := 86) (off := 75) (pc := 11) B dX3_ofMessage_11 (by rw [hc3]; decide +kernel) (by rw [hc3]; decide +kernel) (by rw [hc3]; decide +kernel) (by decide) ?_
              refine x_aload_n (pc := 86) B 0 dX3_ofMessage_86 rfl rfl ?_
              obtain ⟨v9, hv, h⟩ := xbind h
              refine x_getR (k0 := 0) (pc := 87) B dX3_ofMessage_87 rfl xi_3 (by decide) ⟨rfl, rfl, rfl⟩ xt_117 hv ?_
              refine x_iload_n (pc := 90) B 1 dX3_ofMessage_90 rfl rfl ?_
              obtain ⟨q10, hq, h⟩ := xbind h
              refine x_callV1 (st := []) (pc := 91) B dX3_ofMessage_91 (eX0_sendersOf hq) xt_261 xt_54 np_X0_sendersOf hy_X0_sendersOf (Nat.le_of_ble_eq_true rfl) (Nat.le_of_ble_eq_true rfl) (Nat.le_of_ble_eq_true rfl) xt_259 xt_260 xt_359 rfl (iX0_sendersOf hq) rfl ?_
              exact x_iret (pc := 94) B hR dX3_ofMessage_94 (xzI _) h
            · skip
              rcases xite h with ⟨hc4, h⟩ | ⟨hc4, h⟩
              · refine x_tabIn (tgt := 95) (off := 84) (pc := 11) B dX3_ofMessage_11 (by rw [hc4]; decide +kernel) (by rw [hc4]; decide +kernel) (by rw [hc4]; decide +kernel) (by decide) ?_
                refine x_aload_n (pc := 95) B 0 dX3_ofMessage_95 rfl rfl ?_
                obtain ⟨v11, hv, h⟩ := xbind h
                refine x_getR (k0 := 0) (pc := 96) B dX3_ofMessage_96 rfl xi_3 (by decide) ⟨rfl, rfl, rfl⟩ xt_117 hv ?_
                refine x_iload_n (pc := 99) B 1 dX3_ofMessage_99 rfl rfl ?_
                obtain ⟨q12, hq, h⟩ := xbind h
                refine x_callV1 (st := []) (pc := 100) B dX3_ofMessage_100 (eX0_neverSenders hq) xt_309 xt_54 np_X0_neverSenders hy_X0_neverSenders (Nat.le_of_ble_eq_true rfl) (Nat.le_of_ble_eq_true rfl) (Nat.le_of_ble_eq_true rfl) xt_307 xt_308 xt_361 rfl (iX0_neverSenders hq) rfl ?_
                exact x_iret (pc := 103) B hR dX3_ofMessage_103 (xzI _) h
              · skip
                rcases xite h with ⟨hc5, h⟩ | ⟨hc5, h⟩
                · refine x_tabIn (tgt := 104) (off := 93) (pc := 11) B dX3_ofMessage_11 (by rw [hc5]; decide +kernel) (by rw [hc5]; decide +kernel) (by rw [hc5]; decide +kernel) (by decide) ?_
                  refine x_aload_n (pc := 104) B 0 dX3_ofMessage_104 rfl rfl ?_
                  obtain ⟨v13, hv, h⟩ := xbind h
                  refine x_getR (k0 := 0) (pc := 105) B dX3_ofMessage_105 rfl xi_3 (by decide) ⟨rfl, rfl, rfl⟩ xt_117 hv ?_
                  refine x_iload_n (pc := 108) B 1 dX3_ofMessage_108 rfl rfl ?_
                  refine x_aload_n (pc := 109) B 0 dX3_ofMessage_109 rfl rfl ?_
                  obtain ⟨v14, hv, h⟩ := xbind h
                  refine x_getR (k0 := 0) (pc := 110) B dX3_ofMessage_110 rfl xi_3 (by decide) ⟨rfl, rfl, rfl⟩ xt_117 hv ?_
                  obtain ⟨q15, hq, h⟩ := xbind h
                  refine x_callV1 (st := [.int i1, .ref v13]) (pc := 113) B dX3_ofMessage_113 (eX0_typesThere hq) xt_305 xt_54 np_X0_typesThere hy_X0_typesThere (Nat.le_of_ble_eq_true rfl) (Nat.le_of_ble_eq_true rfl) (Nat.le_of_ble_eq_true rfl) xt_303 xt_304 xt_362 rfl (iX0_typesThere hq) rfl ?_
                  obtain ⟨q16, hq, h⟩ := xbind h
                  refine x_callV1 (st := []) (pc := 116) B dX3_ofMessage_116 (eX0_possibleActions hq) xt_313 xt_54 np_X0_possibleActions hy_X0_possibleActions (Nat.le_of_ble_eq_true rfl) (Nat.le_of_ble_eq_true rfl) (Nat.le_of_ble_eq_true rfl) xt_311 xt_312 xt_363 rfl (iX0_possibleActions hq) rfl ?_
                  exact x_iret (pc := 119) B hR dX3_ofMessage_119 (xzI _) h
                · skip
                  refine x_tabOut (tgt := 120) (pc := 11) B dX3_ofMessage_11 ?_ (by decide) ?_
                  · have hz0 := lv_neT hc0 (a := 0) (by decide +kernel)
                    have hz1 := lv_neT hc1 (a := 1) (by decide +kernel)
                    have hz2 := lv_neT hc2 (a := 2) (by decide +kernel)
                    have hz3 := lv_neT hc3 (a := 3) (by decide +kernel)
                    have hz4 := lv_neT hc4 (a := 4) (by decide +kernel)
                    have hz5 := lv_neT hc5 (a := 5) (by decide +kernel)
                    omega
                  refine x_bipush (pc := 120) B dX3_ofMessage_120 xk_bipush_m2 ?_
                  exact x_iret (pc := 122) B hR dX3_ofMessage_122 (xzI _) h
  · exact absurd h (by simp)
def fX3_shortened_11 : Nat → Int32 → Int32 → Int32 → Int32 → XW → Option (Int32 × XW)
  | 0, _, _, _, _, _ => none
  | g + 1, i0, i3, i4, i5, w =>
    if (100 : Int32) ≤ i5 then
      if i3 = (0 : Int32) then
        some (i0, w)
      else
      if i3 = 0 then none else
      some ((i0 / i3), w)
    else
    if i4 = (0 : Int32) then
      if i3 = (0 : Int32) then
        some (i0, w)
      else
      if i3 = 0 then none else
      some ((i0 / i3), w)
    else
    if i4 = 0 then none else
    fX3_shortened_11 g i0 i4 (i3 - i3 / i4 * i4) (i5 + (1 : Int32)) w
set_option maxRecDepth 20000 in
theorem pX3_shortened_11 {K : KX} {cx : CX} {nn : Nat} {R9 : Int32 × XW} (B : XB K cx RX3 cX3_shortened 7 nn 1 13) (hR : XR K cx nn (some .int) (some (.int R9.1)) R9.2) : ∀ (g : Nat) (i0 : Int32) (i3 : Int32) (i4 : Int32) (i5 : Int32) (w : XW), fX3_shortened_11 g i0 i3 i4 i5 w = some R9 → Wx K cx 7 nn 11 [(0, .int i0), (3, .int i3), (4, .int i4), (5, .int i5)] [] w := by
  intro g
  induction g with
  | zero =>
    intro i0 i3 i4 i5 w h
    exact absurd (show (none : Option (Int32 × XW)) = some R9 from h) (by simp)
  | succ g ih =>
    intro i0 i3 i4 i5 w h
    rw [fX3_shortened_11] at h
    refine x_iload (pc := 11) B 3 dX3_shortened_11 rfl ?_
    refine x_bipush (pc := 13) B dX3_shortened_13 xk_bipush_100 ?_
    rcases xite h with ⟨hc, h⟩ | ⟨hc, h⟩
    · refine x_icmp_ge_t (tgt := 42) (pc := 15) B dX3_shortened_15 (by decide) hc ?_
      refine x_iload_n (pc := 42) B 1 dX3_shortened_42 rfl rfl ?_
      rcases xite h with ⟨hc, h⟩ | ⟨hc, h⟩
      · refine x_if_ne_f (pc := 43) B 50 dX3_shortened_43 (by decide) hc ?_
        refine x_iload_n (pc := 46) B 0 dX3_shortened_46 rfl rfl ?_
        refine x_goto (tgt := 53) (pc := 47) B dX3_shortened_47 (by decide) ?_
        exact x_iret (pc := 53) B hR dX3_shortened_53 (xzI _) h
      · refine x_if_ne_t (tgt := 50) (pc := 43) B dX3_shortened_43 (by decide) hc ?_
        refine x_iload_n (pc := 50) B 0 dX3_shortened_50 rfl rfl ?_
        refine x_iload_n (pc := 51) B 1 dX3_shortened_51 rfl rfl ?_
        rcases xite h with ⟨hc, h⟩ | ⟨hc, h⟩
        · exact absurd h (by simp)
        refine x_idiv (pc := 52) B dX3_shortened_52 hc ?_
        exact x_iret (pc := 53) B hR dX3_shortened_53 (xzI _) h
    · refine x_icmp_ge_f (pc := 15) B 42 dX3_shortened_15 (by decide) hc ?_
      refine x_iload (pc := 18) B 2 dX3_shortened_18 rfl ?_
      rcases xite h with ⟨hc, h⟩ | ⟨hc, h⟩
      · refine x_if_eq_t (tgt := 42) (pc := 20) B dX3_shortened_20 (by decide) hc ?_
        refine x_iload_n (pc := 42) B 1 dX3_shortened_42 rfl rfl ?_
        rcases xite h with ⟨hc, h⟩ | ⟨hc, h⟩
        · refine x_if_ne_f (pc := 43) B 50 dX3_shortened_43 (by decide) hc ?_
          refine x_iload_n (pc := 46) B 0 dX3_shortened_46 rfl rfl ?_
          refine x_goto (tgt := 53) (pc := 47) B dX3_shortened_47 (by decide) ?_
          exact x_iret (pc := 53) B hR dX3_shortened_53 (xzI _) h
        · refine x_if_ne_t (tgt := 50) (pc := 43) B dX3_shortened_43 (by decide) hc ?_
          refine x_iload_n (pc := 50) B 0 dX3_shortened_50 rfl rfl ?_
          refine x_iload_n (pc := 51) B 1 dX3_shortened_51 rfl rfl ?_
          rcases xite h with ⟨hc, h⟩ | ⟨hc, h⟩
          · exact absurd h (by simp)
          refine x_idiv (pc := 52) B dX3_shortened_52 hc ?_
          exact x_iret (pc := 53) B hR dX3_shortened_53 (xzI _) h
      · refine x_if_eq_f (pc := 20) B 42 dX3_shortened_20 (by decide) hc ?_
        refine x_iload_n (pc := 23) B 1 dX3_shortened_23 rfl rfl ?_
        refine x_iload (pc := 24) B 2 dX3_shortened_24 rfl ?_
        rcases xite h with ⟨hc, h⟩ | ⟨hc, h⟩
        · exact absurd h (by simp)
        refine x_irem (pc := 26) B dX3_shortened_26 hc ?_
        refine x_istore (L1 := [(6, .int (i3 - i3 / i4 * i4)), (0, .int i0), (3, .int i3), (4, .int i4), (5, .int i5)]) (pc := 27) B dX3_shortened_27 (by decide) rfl ?_
        refine x_iload (pc := 29) B 3 dX3_shortened_29 rfl ?_
        refine x_istore_n (L1 := [(3, .int i4), (6, .int (i3 - i3 / i4 * i4)), (0, .int i0), (4, .int i4), (5, .int i5)]) (pc := 31) B dX3_shortened_31 rfl (by decide) rfl ?_
        refine x_iload (pc := 32) B 1 dX3_shortened_32 rfl ?_
        refine x_istore (L1 := [(4, .int (i3 - i3 / i4 * i4)), (3, .int i4), (6, .int (i3 - i3 / i4 * i4)), (0, .int i0), (5, .int i5)]) (pc := 34) B dX3_shortened_34 (by decide) rfl ?_
        refine x_iinc (L1 := [(5, .int (i5 + (1 : Int32))), (4, .int (i3 - i3 / i4 * i4)), (3, .int i4), (6, .int (i3 - i3 / i4 * i4)), (0, .int i0)]) (pc := 36) B 4 dX3_shortened_36 rfl (congrArg _ xk_iconst_1) (by decide) rfl ?_
        refine x_goto (tgt := 11) (pc := 39) B dX3_shortened_39 (by decide) ?_
        refine x_sub (L1 := [(0, .int i0), (3, .int i4), (4, .int (i3 - i3 / i4 * i4)), (5, .int (i5 + (1 : Int32)))]) [4, 2, 1, 0] rfl ?_
        exact ih i0 i4 (i3 - i3 / i4 * i4) (i5 + (1 : Int32)) w h
def fX3_shortened (i0 : Int32) (i1 : Int32) (i2 : Int32) (w : XW) : Option (Int32 × XW) :=
  fX3_shortened_11 1000 i0 (if 0 ≤ i1 then i1 else 0 - i1) i2 (0 : Int32) w
theorem np_X3_shortened : (parseMethodDescriptor yX3_shortened.desc).map (fun d => d.parameters.length) = some 3 := by decide +kernel
theorem hy_X3_shortened : yX3_shortened.cls ≠ "java/lang/invoke/MethodHandle" ∧ yX3_shortened.cls ≠ "java/lang/invoke/VarHandle" := ⟨by decide +kernel, by decide +kernel⟩
set_option maxRecDepth 20000 in
theorem eX3_shortened {cx : CX} {i0 : Int32} {i1 : Int32} {i2 : Int32} {w : XW} {R9 : (Int32 × XW)} (h : fX3_shortened i0 i1 i2 w = some R9) : Ct yX3_shortened cX3_shortened 7 (some .int) 1 13 cx [.int i0, .int i1, .int i2] w (some (.int R9.1)) R9.2 := by
  refine Ct_of (by decide +kernel) (Nat.le_of_ble_eq_true rfl) (fun K B hR => ?_)
  rw [fX3_shortened] at h
  show Wx K cx 7 w.length 0 [(0, .int i0), (1, .int i1), (2, .int i2)] [] w
  refine x_iload_n (pc := 0) B 1 dX3_shortened_0 rfl rfl ?_
  refine x_mabs (pc := 1) B dX3_shortened_1 xt_376 (Nat.le_of_ble_eq_true rfl) (Nat.le_of_ble_eq_true rfl) ?_
  refine x_istore_n (L1 := [(3, .int (if 0 ≤ i1 then i1 else 0 - i1)), (0, .int i0), (1, .int i1), (2, .int i2)]) (pc := 4) B dX3_shortened_4 rfl (by decide) rfl ?_
  refine x_iload_n (pc := 5) B 3 dX3_shortened_5 rfl rfl ?_
  refine x_istore (L1 := [(4, .int i2), (3, .int (if 0 ≤ i1 then i1 else 0 - i1)), (0, .int i0), (1, .int i1), (2, .int i2)]) (pc := 6) B dX3_shortened_6 (by decide) rfl ?_
  refine x_iconst (pc := 8) B dX3_shortened_8 xk_iconst_0 ?_
  refine x_istore (L1 := [(5, .int (0 : Int32)), (4, .int i2), (3, .int (if 0 ≤ i1 then i1 else 0 - i1)), (0, .int i0), (1, .int i1), (2, .int i2)]) (pc := 9) B dX3_shortened_9 (by decide) rfl ?_
  refine x_sub (L1 := [(0, .int i0), (3, .int (if 0 ≤ i1 then i1 else 0 - i1)), (4, .int i2), (5, .int (0 : Int32))]) [3, 2, 1, 0] rfl ?_
  exact pX3_shortened_11 B hR 1000 i0 (if 0 ≤ i1 then i1 else 0 - i1) i2 (0 : Int32) w h
def fX3_belief (a0 : Nat) (i1 : Int32) (i2 : Int32) (i3 : Int32) (w : XW) : Option (Int32 × XW) := if xis w a0 3 = true then
  (fX3_isWithin i1 (3 : Int32) w).bind fun q1 =>
  if q1.1 = (0 : Int32) then
    some ((-1 : Int32), q1.2)
  else
  (fX3_isWithin i2 (3 : Int32) q1.2).bind fun q2 =>
  if q2.1 = (0 : Int32) then
    some ((-1 : Int32), q2.2)
  else
  (xgR q2.2 a0 3 0).bind fun v3 =>
  (fX0_beliefWeight v3 i1 i2 q2.2).bind fun q4 =>
  (xgR q4.2 a0 3 0).bind fun v5 =>
  (fX0_beliefSum v5 i1 q4.2).bind fun q6 =>
  if i3 = (0 : Int32) then
    (fX3_shortened q4.1 q4.1 q6.1 q6.2).bind fun q7 =>
    some (q7.1, q7.2)
  else
  if i3 = (1 : Int32) then
    (fX3_shortened q6.1 q4.1 q6.1 q6.2).bind fun q8 =>
    some (q8.1, q8.2)
  else
  some ((-2 : Int32), q6.2)
  else none
theorem iX3_belief {a0 : Nat} {i1 : Int32} {i2 : Int32} {i3 : Int32} {w : XW} {R9 : (Int32 × XW)} (h : fX3_belief a0 i1 i2 i3 w = some R9) : xis w a0 3 = true := by
  unfold fX3_belief at h
  rcases xite h with ⟨hc, h⟩ | ⟨hc, h⟩
  · exact hc
  · exact absurd h (by simp)
theorem np_X3_belief : (parseMethodDescriptor yX3_belief.desc).map (fun d => d.parameters.length) = some 3 := by decide +kernel
theorem hy_X3_belief : yX3_belief.cls ≠ "java/lang/invoke/MethodHandle" ∧ yX3_belief.cls ≠ "java/lang/invoke/VarHandle" := ⟨by decide +kernel, by decide +kernel⟩
set_option maxRecDepth 20000 in
theorem eX3_belief {cx : CX} {a0 : Nat} {i1 : Int32} {i2 : Int32} {i3 : Int32} {w : XW} {R9 : (Int32 × XW)} (h : fX3_belief a0 i1 i2 i3 w = some R9) : Ct yX3_belief cX3_belief 6 (some .int) 4 90 cx [.ref a0, .int i1, .int i2, .int i3] w (some (.int R9.1)) R9.2 := by
  refine Ct_of (by decide +kernel) (Nat.le_of_ble_eq_true rfl) (fun K B hR => ?_)
  rw [fX3_belief] at h
  show Wx K cx 6 w.length 0 [(0, .ref a0), (1, .int i1), (2, .int i2), (3, .int i3)] [] w
  rcases xite h with ⟨hc, h⟩ | ⟨hc, h⟩
  · skip
    refine x_iload_n (pc := 0) B 1 dX3_belief_0 rfl rfl ?_
    refine x_iconst (pc := 1) B dX3_belief_1 xk_iconst_3 ?_
    obtain ⟨q1, hq, h⟩ := xbind h
    refine x_callS1 (st := []) (pc := 2) B dX3_belief_2 (eX3_isWithin hq) xt_142 xt_53 np_X3_isWithin hy_X3_isWithin (Nat.le_of_ble_eq_true rfl) (Nat.le_of_ble_eq_true rfl) (Nat.le_of_ble_eq_true rfl) xt_141 xt_140 rfl ?_
    rcases xite h with ⟨hc, h⟩ | ⟨hc, h⟩
    · refine x_if_eq_t (tgt := 16) (pc := 5) B dX3_belief_5 (by decide) hc ?_
      refine x_iconst (pc := 16) B dX3_belief_16 xk_iconst_m1 ?_
      exact x_iret (pc := 17) B hR dX3_belief_17 (xzI _) h
    · refine x_if_eq_f (pc := 5) B 16 dX3_belief_5 (by decide) hc ?_
      refine x_iload_n (pc := 8) B 2 dX3_belief_8 rfl rfl ?_
      refine x_iconst (pc := 9) B dX3_belief_9 xk_iconst_3 ?_
      obtain ⟨q2, hq, h⟩ := xbind h
      refine x_callS1 (st := []) (pc := 10) B dX3_belief_10 (eX3_isWithin hq) xt_142 xt_53 np_X3_isWithin hy_X3_isWithin (Nat.le_of_ble_eq_true rfl) (Nat.le_of_ble_eq_true rfl) (Nat.le_of_ble_eq_true rfl) xt_141 xt_140 rfl ?_
      rcases xite h with ⟨hc, h⟩ | ⟨hc, h⟩
      · refine x_if_ne_f (pc := 13) B 18 dX3_belief_13 (by decide) hc ?_
        refine x_iconst (pc := 16) B dX3_belief_16 xk_iconst_m1 ?_
        exact x_iret (pc := 17) B hR dX3_belief_17 (xzI _) h
      · refine x_if_ne_t (tgt := 18) (pc := 13) B dX3_belief_13 (by decide) hc ?_
        refine x_aload_n (pc := 18) B 0 dX3_belief_18 rfl rfl ?_
        obtain ⟨v3, hv, h⟩ := xbind h
        refine x_getR (k0 := 0) (pc := 19) B dX3_belief_19 rfl xi_3 (by decide) ⟨rfl, rfl, rfl⟩ xt_117 hv ?_
        refine x_iload_n (pc := 22) B 1 dX3_belief_22 rfl rfl ?_
        refine x_iload_n (pc := 23) B 2 dX3_belief_23 rfl rfl ?_
        obtain ⟨q4, hq, h⟩ := xbind h
        refine x_callV1 (st := []) (pc := 24) B dX3_belief_24 (eX0_beliefWeight hq) xt_257 xt_54 np_X0_beliefWeight hy_X0_beliefWeight (Nat.le_of_ble_eq_true rfl) (Nat.le_of_ble_eq_true rfl) (Nat.le_of_ble_eq_true rfl) xt_255 xt_256 xt_368 rfl (iX0_beliefWeight hq) rfl ?_
        refine x_istore (L1 := [(4, .int q4.1), (0, .ref a0), (1, .int i1), (2, .int i2), (3, .int i3)]) (pc := 27) B dX3_belief_27 (by decide) rfl ?_
        refine x_aload_n (pc := 29) B 1 dX3_belief_29 rfl rfl ?_
        obtain ⟨v5, hv, h⟩ := xbind h
        refine x_getR (k0 := 0) (pc := 30) B dX3_belief_30 rfl xi_3 (by decide) ⟨rfl, rfl, rfl⟩ xt_117 hv ?_
        refine x_iload_n (pc := 33) B 2 dX3_belief_33 rfl rfl ?_
        obtain ⟨q6, hq, h⟩ := xbind h
        refine x_callV1 (st := []) (pc := 34) B dX3_belief_34 (eX0_beliefSum hq) xt_372 xt_54 np_X0_beliefSum hy_X0_beliefSum (Nat.le_of_ble_eq_true rfl) (Nat.le_of_ble_eq_true rfl) (Nat.le_of_ble_eq_true rfl) xt_370 xt_371 xt_369 rfl (iX0_beliefSum hq) rfl ?_
        refine x_istore (L1 := [(5, .int q6.1), (4, .int q4.1), (0, .ref a0), (1, .int i1), (2, .int i2), (3, .int i3)]) (pc := 37) B dX3_belief_37 (by decide) rfl ?_
        refine x_iload_n (pc := 39) B 5 dX3_belief_39 rfl rfl ?_
        rcases xite h with ⟨hc0, h⟩ | ⟨hc0, h⟩
        · refine x_look (tgt := 68) (off := 28) (pc := 40) B dX3_belief_40 (by decide +kernel) (by rw [hc0]; decide +kernel) (by decide) ?_
          refine x_iload (pc := 68) B 1 dX3_belief_68 rfl ?_
          refine x_iload (pc := 70) B 1 dX3_belief_70 rfl ?_
          refine x_iload (pc := 72) B 0 dX3_belief_72 rfl ?_
          obtain ⟨q7, hq, h⟩ := xbind h
          refine x_callS1 (st := []) (pc := 74) B dX3_belief_74 (eX3_shortened hq) xt_375 xt_53 np_X3_shortened hy_X3_shortened (Nat.le_of_ble_eq_true rfl) (Nat.le_of_ble_eq_true rfl) (Nat.le_of_ble_eq_true rfl) xt_374 xt_373 rfl ?_
          exact x_iret (pc := 77) B hR dX3_belief_77 (xzI _) h
        · skip
          rcases xite h with ⟨hc1, h⟩ | ⟨hc1, h⟩
          · refine x_look (tgt := 78) (off := 38) (pc := 40) B dX3_belief_40 (by decide +kernel) (by rw [hc1]; decide +kernel) (by decide) ?_
            refine x_iload (pc := 78) B 0 dX3_belief_78 rfl ?_
            refine x_iload (pc := 80) B 1 dX3_belief_80 rfl ?_
            refine x_iload (pc := 82) B 0 dX3_belief_82 rfl ?_
            obtain ⟨q8, hq, h⟩ := xbind h
            refine x_callS1 (st := []) (pc := 84) B dX3_belief_84 (eX3_shortened hq) xt_375 xt_53 np_X3_shortened hy_X3_shortened (Nat.le_of_ble_eq_true rfl) (Nat.le_of_ble_eq_true rfl) (Nat.le_of_ble_eq_true rfl) xt_374 xt_373 rfl ?_
            exact x_iret (pc := 87) B hR dX3_belief_87 (xzI _) h
          · skip
            refine x_look (tgt := 88) (off := 48) (pc := 40) B dX3_belief_40 (by decide +kernel) ?_ (by decide) ?_
            · show Op.lookupswitch.offset [(0, 28), (1, 38)] 48 _ = _
              rw [lv_osw hc0 (by decide +kernel), lv_osw hc1 (by decide +kernel)]
              rfl
            refine x_bipush (pc := 88) B dX3_belief_88 xk_bipush_m2 ?_
            exact x_iret (pc := 90) B hR dX3_belief_90 (xzI _) h
  · exact absurd h (by simp)
def fX3_mean (a0 : Nat) (i1 : Int32) (i2 : Int32) (i3 : Int32) (w : XW) : Option (Int32 × XW) := if xis w a0 3 = true then
  (fX3_isWithin i1 (3 : Int32) w).bind fun q1 =>
  if q1.1 = (0 : Int32) then
    some ((-1 : Int32), q1.2)
  else
  (fX3_isWithin i2 (3 : Int32) q1.2).bind fun q2 =>
  if q2.1 = (0 : Int32) then
    some ((-1 : Int32), q2.2)
  else
  (xgR q2.2 a0 3 0).bind fun v3 =>
  (fX0_worthOf v3 i1 i2 q2.2).bind fun q4 =>
  (xgR q4.2 a0 3 0).bind fun v5 =>
  (fX0_beliefSum v5 i1 q4.2).bind fun q6 =>
  if i3 = (0 : Int32) then
    (fX3_shortened q4.1 q4.1 q6.1 q6.2).bind fun q7 =>
    some ((q7.1 + (1000 : Int32)), q7.2)
  else
  if i3 = (1 : Int32) then
    (fX3_shortened q6.1 q4.1 q6.1 q6.2).bind fun q8 =>
    some (q8.1, q8.2)
  else
  some ((-2 : Int32), q6.2)
  else none
theorem iX3_mean {a0 : Nat} {i1 : Int32} {i2 : Int32} {i3 : Int32} {w : XW} {R9 : (Int32 × XW)} (h : fX3_mean a0 i1 i2 i3 w = some R9) : xis w a0 3 = true := by
  unfold fX3_mean at h
  rcases xite h with ⟨hc, h⟩ | ⟨hc, h⟩
  · exact hc
  · exact absurd h (by simp)
theorem np_X3_mean : (parseMethodDescriptor yX3_mean.desc).map (fun d => d.parameters.length) = some 3 := by decide +kernel
theorem hy_X3_mean : yX3_mean.cls ≠ "java/lang/invoke/MethodHandle" ∧ yX3_mean.cls ≠ "java/lang/invoke/VarHandle" := ⟨by decide +kernel, by decide +kernel⟩
set_option maxRecDepth 20000 in
theorem eX3_mean {cx : CX} {a0 : Nat} {i1 : Int32} {i2 : Int32} {i3 : Int32} {w : XW} {R9 : (Int32 × XW)} (h : fX3_mean a0 i1 i2 i3 w = some R9) : Ct yX3_mean cX3_mean 6 (some .int) 4 92 cx [.ref a0, .int i1, .int i2, .int i3] w (some (.int R9.1)) R9.2 := by
  refine Ct_of (by decide +kernel) (Nat.le_of_ble_eq_true rfl) (fun K B hR => ?_)
  rw [fX3_mean] at h
  show Wx K cx 6 w.length 0 [(0, .ref a0), (1, .int i1), (2, .int i2), (3, .int i3)] [] w
  rcases xite h with ⟨hc, h⟩ | ⟨hc, h⟩
  · skip
    refine x_iload_n (pc := 0) B 1 dX3_mean_0 rfl rfl ?_
    refine x_iconst (pc := 1) B dX3_mean_1 xk_iconst_3 ?_
    obtain ⟨q1, hq, h⟩ := xbind h
    refine x_callS1 (st := []) (pc := 2) B dX3_mean_2 (eX3_isWithin hq) xt_142 xt_53 np_X3_isWithin hy_X3_isWithin (Nat.le_of_ble_eq_true rfl) (Nat.le_of_ble_eq_true rfl) (Nat.le_of_ble_eq_true rfl) xt_141 xt_140 rfl ?_
    rcases xite h with ⟨hc, h⟩ | ⟨hc, h⟩
    · refine x_if_eq_t (tgt := 16) (pc := 5) B dX3_mean_5 (by decide) hc ?_
      refine x_iconst (pc := 16) B dX3_mean_16 xk_iconst_m1 ?_
      exact x_iret (pc := 17) B hR dX3_mean_17 (xzI _) h
    · refine x_if_eq_f (pc := 5) B 16 dX3_mean_5 (by decide) hc ?_
      refine x_iload_n (pc := 8) B 2 dX3_mean_8 rfl rfl ?_
      refine x_iconst (pc := 9) B dX3_mean_9 xk_iconst_3 ?_
      obtain ⟨q2, hq, h⟩ := xbind h
      refine x_callS1 (st := []) (pc := 10) B dX3_mean_10 (eX3_isWithin hq) xt_142 xt_53 np_X3_isWithin hy_X3_isWithin (Nat.le_of_ble_eq_true rfl) (Nat.le_of_ble_eq_true rfl) (Nat.le_of_ble_eq_true rfl) xt_141 xt_140 rfl ?_
      rcases xite h with ⟨hc, h⟩ | ⟨hc, h⟩
      · refine x_if_ne_f (pc := 13) B 18 dX3_mean_13 (by decide) hc ?_
        refine x_iconst (pc := 16) B dX3_mean_16 xk_iconst_m1 ?_
        exact x_iret (pc := 17) B hR dX3_mean_17 (xzI _) h
      · refine x_if_ne_t (tgt := 18) (pc := 13) B dX3_mean_13 (by decide) hc ?_
        refine x_aload_n (pc := 18) B 0 dX3_mean_18 rfl rfl ?_
        obtain ⟨v3, hv, h⟩ := xbind h
        refine x_getR (k0 := 0) (pc := 19) B dX3_mean_19 rfl xi_3 (by decide) ⟨rfl, rfl, rfl⟩ xt_117 hv ?_
        refine x_iload_n (pc := 22) B 1 dX3_mean_22 rfl rfl ?_
        refine x_iload_n (pc := 23) B 2 dX3_mean_23 rfl rfl ?_
        obtain ⟨q4, hq, h⟩ := xbind h
        refine x_callV1 (st := []) (pc := 24) B dX3_mean_24 (eX0_worthOf hq) xt_386 xt_54 np_X0_worthOf hy_X0_worthOf (Nat.le_of_ble_eq_true rfl) (Nat.le_of_ble_eq_true rfl) (Nat.le_of_ble_eq_true rfl) xt_384 xt_385 xt_383 rfl (iX0_worthOf hq) rfl ?_
        refine x_istore (L1 := [(4, .int q4.1), (0, .ref a0), (1, .int i1), (2, .int i2), (3, .int i3)]) (pc := 27) B dX3_mean_27 (by decide) rfl ?_
        refine x_aload_n (pc := 29) B 1 dX3_mean_29 rfl rfl ?_
        obtain ⟨v5, hv, h⟩ := xbind h
        refine x_getR (k0 := 0) (pc := 30) B dX3_mean_30 rfl xi_3 (by decide) ⟨rfl, rfl, rfl⟩ xt_117 hv ?_
        refine x_iload_n (pc := 33) B 2 dX3_mean_33 rfl rfl ?_
        obtain ⟨q6, hq, h⟩ := xbind h
        refine x_callV1 (st := []) (pc := 34) B dX3_mean_34 (eX0_beliefSum hq) xt_372 xt_54 np_X0_beliefSum hy_X0_beliefSum (Nat.le_of_ble_eq_true rfl) (Nat.le_of_ble_eq_true rfl) (Nat.le_of_ble_eq_true rfl) xt_370 xt_371 xt_369 rfl (iX0_beliefSum hq) rfl ?_
        refine x_istore (L1 := [(5, .int q6.1), (4, .int q4.1), (0, .ref a0), (1, .int i1), (2, .int i2), (3, .int i3)]) (pc := 37) B dX3_mean_37 (by decide) rfl ?_
        refine x_iload_n (pc := 39) B 5 dX3_mean_39 rfl rfl ?_
        rcases xite h with ⟨hc0, h⟩ | ⟨hc0, h⟩
        · refine x_look (tgt := 68) (off := 28) (pc := 40) B dX3_mean_40 (by decide +kernel) (by rw [hc0]; decide +kernel) (by decide) ?_
          refine x_iload (pc := 68) B 1 dX3_mean_68 rfl ?_
          refine x_iload (pc := 70) B 1 dX3_mean_70 rfl ?_
          refine x_iload (pc := 72) B 0 dX3_mean_72 rfl ?_
          obtain ⟨q7, hq, h⟩ := xbind h
          refine x_callS1 (st := []) (pc := 74) B dX3_mean_74 (eX3_shortened hq) xt_375 xt_53 np_X3_shortened hy_X3_shortened (Nat.le_of_ble_eq_true rfl) (Nat.le_of_ble_eq_true rfl) (Nat.le_of_ble_eq_true rfl) xt_374 xt_373 rfl ?_
          refine x_sipush (pc := 77) B dX3_mean_77 xk_sipush_1000 ?_
          refine x_iadd (pc := 80) B dX3_mean_80 ?_
          exact x_iret (pc := 81) B hR dX3_mean_81 (xzI _) h
        · skip
          rcases xite h with ⟨hc1, h⟩ | ⟨hc1, h⟩
          · refine x_look (tgt := 82) (off := 42) (pc := 40) B dX3_mean_40 (by decide +kernel) (by rw [hc1]; decide +kernel) (by decide) ?_
            refine x_iload (pc := 82) B 0 dX3_mean_82 rfl ?_
            refine x_iload (pc := 84) B 1 dX3_mean_84 rfl ?_
            refine x_iload (pc := 86) B 0 dX3_mean_86 rfl ?_
            obtain ⟨q8, hq, h⟩ := xbind h
            refine x_callS1 (st := []) (pc := 88) B dX3_mean_88 (eX3_shortened hq) xt_375 xt_53 np_X3_shortened hy_X3_shortened (Nat.le_of_ble_eq_true rfl) (Nat.le_of_ble_eq_true rfl) (Nat.le_of_ble_eq_true rfl) xt_374 xt_373 rfl ?_
            exact x_iret (pc := 91) B hR dX3_mean_91 (xzI _) h
          · skip
            refine x_look (tgt := 92) (off := 52) (pc := 40) B dX3_mean_40 (by decide +kernel) ?_ (by decide) ?_
            · show Op.lookupswitch.offset [(0, 28), (1, 42)] 52 _ = _
              rw [lv_osw hc0 (by decide +kernel), lv_osw hc1 (by decide +kernel)]
              rfl
            refine x_bipush (pc := 92) B dX3_mean_92 xk_bipush_m2 ?_
            exact x_iret (pc := 94) B hR dX3_mean_94 (xzI _) h
  · exact absurd h (by simp)
def fX3_why_12 (a0 : Nat) (i1 : Int32) (w : XW) : Option (Int32 × XW) :=
  (xgR w a0 3 0).bind fun v1 =>
  (fX0_lowestBetterType v1 w).bind fun q2 =>
  if q2.1 = (-6 : Int32) then
    (xgR q2.2 a0 3 0).bind fun v3 =>
    (fX0_lowestWrongMessage v3 q2.2).bind fun q4 =>
    if q4.1 = (-6 : Int32) then
      if i1 = (0 : Int32) then
        some ((0 : Int32), q4.2)
      else
      some ((-6 : Int32), q4.2)
    else
    if i1 = (0 : Int32) then
      some ((2 : Int32), q4.2)
    else
    some (q4.1, q4.2)
  else
  if i1 = (0 : Int32) then
    some ((1 : Int32), q2.2)
  else
  some (q2.1, q2.2)
set_option maxRecDepth 20000 in
theorem pX3_why_12 {K : KX} {cx : CX} {nn : Nat} {R9 : Int32 × XW} (B : XB K cx RX3 cX3_why 4 nn 5 121) (hR : XR K cx nn (some .int) (some (.int R9.1)) R9.2) : ∀ (a0 : Nat) (i1 : Int32) (w : XW), fX3_why_12 a0 i1 w = some R9 → Wx K cx 4 nn 12 [(0, .ref a0), (1, .int i1)] [] w := by
  intro a0 i1 w h
  rw [fX3_why_12] at h
  refine x_aload_n (pc := 12) B 0 dX3_why_12 rfl rfl ?_
  obtain ⟨v1, hv, h⟩ := xbind h
  refine x_getR (k0 := 0) (pc := 13) B dX3_why_13 rfl xi_3 (by decide) ⟨rfl, rfl, rfl⟩ xt_117 hv ?_
  obtain ⟨q2, hq, h⟩ := xbind h
  refine x_callV1 (st := []) (pc := 16) B dX3_why_16 (eX0_lowestBetterType hq) xt_279 xt_54 np_X0_lowestBetterType hy_X0_lowestBetterType (Nat.le_of_ble_eq_true rfl) (Nat.le_of_ble_eq_true rfl) (Nat.le_of_ble_eq_true rfl) xt_277 xt_278 xt_391 rfl (iX0_lowestBetterType hq) rfl ?_
  refine x_istore_n (L1 := [(2, .int q2.1), (0, .ref a0), (1, .int i1)]) (pc := 19) B dX3_why_19 rfl (by decide) rfl ?_
  refine x_iload_n (pc := 20) B 0 dX3_why_20 rfl rfl ?_
  refine x_bipush (pc := 21) B dX3_why_21 xk_bipush_m6 ?_
  rcases xite h with ⟨hc, h⟩ | ⟨hc, h⟩
  · refine x_icmp_eq_t (tgt := 36) (pc := 23) B dX3_why_23 (by decide) hc ?_
    refine x_aload_n (pc := 36) B 1 dX3_why_36 rfl rfl ?_
    obtain ⟨v3, hv, h⟩ := xbind h
    refine x_getR (k0 := 0) (pc := 37) B dX3_why_37 rfl xi_3 (by decide) ⟨rfl, rfl, rfl⟩ xt_117 hv ?_
    obtain ⟨q4, hq, h⟩ := xbind h
    refine x_callV1 (st := []) (pc := 40) B dX3_why_40 (eX0_lowestWrongMessage hq) xt_395 xt_54 np_X0_lowestWrongMessage hy_X0_lowestWrongMessage (Nat.le_of_ble_eq_true rfl) (Nat.le_of_ble_eq_true rfl) (Nat.le_of_ble_eq_true rfl) xt_393 xt_394 xt_392 rfl (iX0_lowestWrongMessage hq) rfl ?_
    refine x_istore_n (L1 := [(3, .int q4.1), (2, .int q2.1), (0, .ref a0), (1, .int i1)]) (pc := 43) B dX3_why_43 rfl (by decide) rfl ?_
    refine x_iload_n (pc := 44) B 0 dX3_why_44 rfl rfl ?_
    refine x_bipush (pc := 45) B dX3_why_45 xk_bipush_m6 ?_
    rcases xite h with ⟨hc, h⟩ | ⟨hc, h⟩
    · refine x_icmp_eq_t (tgt := 60) (pc := 47) B dX3_why_47 (by decide) hc ?_
      refine x_iload_n (pc := 60) B 3 dX3_why_60 rfl rfl ?_
      rcases xite h with ⟨hc, h⟩ | ⟨hc, h⟩
      · refine x_if_ne_f (pc := 61) B 68 dX3_why_61 (by decide) hc ?_
        refine x_iconst (pc := 64) B dX3_why_64 xk_iconst_0 ?_
        refine x_goto (tgt := 70) (pc := 65) B dX3_why_65 (by decide) ?_
        exact x_iret (pc := 70) B hR dX3_why_70 (xzI _) h
      · refine x_if_ne_t (tgt := 68) (pc := 61) B dX3_why_61 (by decide) hc ?_
        refine x_bipush (pc := 68) B dX3_why_68 xk_bipush_m6 ?_
        exact x_iret (pc := 70) B hR dX3_why_70 (xzI _) h
    · refine x_icmp_eq_f (pc := 47) B 60 dX3_why_47 (by decide) hc ?_
      refine x_iload_n (pc := 50) B 3 dX3_why_50 rfl rfl ?_
      rcases xite h with ⟨hc, h⟩ | ⟨hc, h⟩
      · refine x_if_ne_f (pc := 51) B 58 dX3_why_51 (by decide) hc ?_
        refine x_iconst (pc := 54) B dX3_why_54 xk_iconst_2 ?_
        refine x_goto (tgt := 59) (pc := 55) B dX3_why_55 (by decide) ?_
        exact x_iret (pc := 59) B hR dX3_why_59 (xzI _) h
      · refine x_if_ne_t (tgt := 58) (pc := 51) B dX3_why_51 (by decide) hc ?_
        refine x_iload_n (pc := 58) B 0 dX3_why_58 rfl rfl ?_
        exact x_iret (pc := 59) B hR dX3_why_59 (xzI _) h
  · refine x_icmp_eq_f (pc := 23) B 36 dX3_why_23 (by decide) hc ?_
    refine x_iload_n (pc := 26) B 2 dX3_why_26 rfl rfl ?_
    rcases xite h with ⟨hc, h⟩ | ⟨hc, h⟩
    · refine x_if_ne_f (pc := 27) B 34 dX3_why_27 (by decide) hc ?_
      refine x_iconst (pc := 30) B dX3_why_30 xk_iconst_1 ?_
      refine x_goto (tgt := 35) (pc := 31) B dX3_why_31 (by decide) ?_
      exact x_iret (pc := 35) B hR dX3_why_35 (xzI _) h
    · refine x_if_ne_t (tgt := 34) (pc := 27) B dX3_why_27 (by decide) hc ?_
      refine x_iload_n (pc := 34) B 0 dX3_why_34 rfl rfl ?_
      exact x_iret (pc := 35) B hR dX3_why_35 (xzI _) h
def fX3_why (a0 : Nat) (i1 : Int32) (w : XW) : Option (Int32 × XW) := if xis w a0 3 = true then
  if i1 = (0 : Int32) then
    fX3_why_12 a0 i1 w
  else
  if i1 = (1 : Int32) then
    fX3_why_12 a0 i1 w
  else
  some ((-2 : Int32), w)
  else none
theorem iX3_why {a0 : Nat} {i1 : Int32} {w : XW} {R9 : (Int32 × XW)} (h : fX3_why a0 i1 w = some R9) : xis w a0 3 = true := by
  unfold fX3_why at h
  rcases xite h with ⟨hc, h⟩ | ⟨hc, h⟩
  · exact hc
  · exact absurd h (by simp)
theorem np_X3_why : (parseMethodDescriptor yX3_why.desc).map (fun d => d.parameters.length) = some 1 := by decide +kernel
theorem hy_X3_why : yX3_why.cls ≠ "java/lang/invoke/MethodHandle" ∧ yX3_why.cls ≠ "java/lang/invoke/VarHandle" := ⟨by decide +kernel, by decide +kernel⟩
set_option maxRecDepth 20000 in
theorem eX3_why {cx : CX} {a0 : Nat} {i1 : Int32} {w : XW} {R9 : (Int32 × XW)} (h : fX3_why a0 i1 w = some R9) : Ct yX3_why cX3_why 4 (some .int) 5 121 cx [.ref a0, .int i1] w (some (.int R9.1)) R9.2 := by
  refine Ct_of (by decide +kernel) (Nat.le_of_ble_eq_true rfl) (fun K B hR => ?_)
  rw [fX3_why] at h
  show Wx K cx 4 w.length 0 [(0, .ref a0), (1, .int i1)] [] w
  rcases xite h with ⟨hc, h⟩ | ⟨hc, h⟩
  · skip
    refine x_iload_n (pc := 0) B 1 dX3_why_0 rfl rfl ?_
    rcases xite h with ⟨hc, h⟩ | ⟨hc, h⟩
    · refine x_if_eq_t (tgt := 12) (pc := 1) B dX3_why_1 (by decide) hc ?_
      exact pX3_why_12 B hR a0 i1 w h
    · refine x_if_eq_f (pc := 1) B 12 dX3_why_1 (by decide) hc ?_
      refine x_iload_n (pc := 4) B 1 dX3_why_4 rfl rfl ?_
      refine x_iconst (pc := 5) B dX3_why_5 xk_iconst_1 ?_
      rcases xite h with ⟨hc, h⟩ | ⟨hc, h⟩
      · refine x_icmp_eq_t (tgt := 12) (pc := 6) B dX3_why_6 (by decide) hc ?_
        exact pX3_why_12 B hR a0 i1 w h
      · refine x_icmp_eq_f (pc := 6) B 12 dX3_why_6 (by decide) hc ?_
        refine x_bipush (pc := 9) B dX3_why_9 xk_bipush_m2 ?_
        exact x_iret (pc := 11) B hR dX3_why_11 (xzI _) h
  · exact absurd h (by simp)
def fX3_count (a0 : Nat) (i1 : Int32) (w : XW) : Option (Int32 × XW) := if xis w a0 3 = true then
  if i1 = (0 : Int32) then
    (xgR w a0 3 0).bind fun v1 =>
    (fX0_isHolding v1 w).bind fun q2 =>
    if q2.1 = (0 : Int32) then
      some ((0 : Int32), q2.2)
    else
    some ((1 : Int32), q2.2)
  else
  if i1 = (1 : Int32) then
    (xgR w a0 3 0).bind fun v3 =>
    (fX0_kind v3 w).bind fun q4 =>
    some (q4.1, q4.2)
  else
  if i1 = (2 : Int32) then
    (xgR w a0 3 0).bind fun v5 =>
    (fX0_isHolding v5 w).bind fun q6 =>
    if q6.1 = (0 : Int32) then
      some ((0 : Int32), q6.2)
    else
    (xgR q6.2 a0 3 0).bind fun v7 =>
    (fX0_isUntempted v7 q6.2).bind fun q8 =>
    if q8.1 = (0 : Int32) then
      some ((0 : Int32), q8.2)
    else
    some ((1 : Int32), q8.2)
  else
  if i1 = (3 : Int32) then
    (xgR w a0 3 0).bind fun v9 =>
    (fX0_typesThere v9 w).bind fun q10 =>
    some (q10.1, q10.2)
  else
  if i1 = (4 : Int32) then
    (xgR w a0 3 0).bind fun v11 =>
    (fX0_messagesSent v11 w).bind fun q12 =>
    some (q12.1, q12.2)
  else
  if i1 = (5 : Int32) then
    (xgR w a0 3 0).bind fun v13 =>
    (fX0_code v13 w).bind fun q14 =>
    some (q14.1, q14.2)
  else
  if i1 = (6 : Int32) then
    (xgR w a0 3 2).bind fun v15 =>
    (fX1_length v15 w).bind fun q16 =>
    some (q16.1, q16.2)
  else
  if i1 = (7 : Int32) then
    (xgI w a0 3 6).bind fun v17 =>
    some (v17, w)
  else
  some ((-2 : Int32), w)
  else none
theorem iX3_count {a0 : Nat} {i1 : Int32} {w : XW} {R9 : (Int32 × XW)} (h : fX3_count a0 i1 w = some R9) : xis w a0 3 = true := by
  unfold fX3_count at h
  rcases xite h with ⟨hc, h⟩ | ⟨hc, h⟩
  · exact hc
  · exact absurd h (by simp)
theorem np_X3_count : (parseMethodDescriptor yX3_count.desc).map (fun d => d.parameters.length) = some 1 := by decide +kernel
theorem hy_X3_count : yX3_count.cls ≠ "java/lang/invoke/MethodHandle" ∧ yX3_count.cls ≠ "java/lang/invoke/VarHandle" := ⟨by decide +kernel, by decide +kernel⟩
set_option maxRecDepth 20000 in
theorem eX3_count {cx : CX} {a0 : Nat} {i1 : Int32} {w : XW} {R9 : (Int32 × XW)} (h : fX3_count a0 i1 w = some R9) : Ct yX3_count cX3_count 2 (some .int) 6 155 cx [.ref a0, .int i1] w (some (.int R9.1)) R9.2 := by
  refine Ct_of (by decide +kernel) (Nat.le_of_ble_eq_true rfl) (fun K B hR => ?_)
  rw [fX3_count] at h
  show Wx K cx 2 w.length 0 [(0, .ref a0), (1, .int i1)] [] w
  rcases xite h with ⟨hc, h⟩ | ⟨hc, h⟩
  · skip
    refine x_iload_n (pc := 0) B 1 dX3_count_0 rfl rfl ?_
    rcases xite h with ⟨hc0, h⟩ | ⟨hc0, h⟩
    · refine x_tabIn (tgt := 48) (off := 47) (pc := 1) B dX3_count_1 (by rw [hc0]; decide +kernel) (by rw [hc0]; decide +kernel) (by rw [hc0]; decide +kernel) (by decide) ?_
      refine x_aload_n (pc := 48) B 0 dX3_count_48 rfl rfl ?_
      obtain ⟨v1, hv, h⟩ := xbind h
      refine x_getR (k0 := 0) (pc := 49) B dX3_count_49 rfl xi_3 (by decide) ⟨rfl, rfl, rfl⟩ xt_117 hv ?_
      obtain ⟨q2, hq, h⟩ := xbind h
      refine x_callV1 (st := []) (pc := 52) B dX3_count_52 (eX0_isHolding hq) xt_404 xt_54 np_X0_isHolding hy_X0_isHolding (Nat.le_of_ble_eq_true rfl) (Nat.le_of_ble_eq_true rfl) (Nat.le_of_ble_eq_true rfl) xt_402 xt_403 xt_401 rfl (iX0_isHolding hq) rfl ?_
      rcases xite h with ⟨hc, h⟩ | ⟨hc, h⟩
      · refine x_if_eq_t (tgt := 62) (pc := 55) B dX3_count_55 (by decide) hc ?_
        refine x_iconst (pc := 62) B dX3_count_62 xk_iconst_0 ?_
        exact x_iret (pc := 63) B hR dX3_count_63 (xzI _) h
      · refine x_if_eq_f (pc := 55) B 62 dX3_count_55 (by decide) hc ?_
        refine x_iconst (pc := 58) B dX3_count_58 xk_iconst_1 ?_
        refine x_goto (tgt := 63) (pc := 59) B dX3_count_59 (by decide) ?_
        exact x_iret (pc := 63) B hR dX3_count_63 (xzI _) h
    · skip
      rcases xite h with ⟨hc1, h⟩ | ⟨hc1, h⟩
      · refine x_tabIn (tgt := 64) (off := 63) (pc := 1) B dX3_count_1 (by rw [hc1]; decide +kernel) (by rw [hc1]; decide +kernel) (by rw [hc1]; decide +kernel) (by decide) ?_
        refine x_aload_n (pc := 64) B 0 dX3_count_64 rfl rfl ?_
        obtain ⟨v3, hv, h⟩ := xbind h
        refine x_getR (k0 := 0) (pc := 65) B dX3_count_65 rfl xi_3 (by decide) ⟨rfl, rfl, rfl⟩ xt_117 hv ?_
        obtain ⟨q4, hq, h⟩ := xbind h
        refine x_callV1 (st := []) (pc := 68) B dX3_count_68 (eX0_kind hq) xt_331 xt_54 np_X0_kind hy_X0_kind (Nat.le_of_ble_eq_true rfl) (Nat.le_of_ble_eq_true rfl) (Nat.le_of_ble_eq_true rfl) xt_329 xt_330 xt_407 rfl (iX0_kind hq) rfl ?_
        exact x_iret (pc := 71) B hR dX3_count_71 (xzI _) h
      · skip
        rcases xite h with ⟨hc2, h⟩ | ⟨hc2, h⟩
        · refine x_tabIn (tgt := 72) (off := 71) (pc := 1) B dX3_count_1 (by rw [hc2]; decide +kernel) (by rw [hc2]; decide +kernel) (by rw [hc2]; decide +kernel) (by decide) ?_
          refine x_aload_n (pc := 72) B 0 dX3_count_72 rfl rfl ?_
          obtain ⟨v5, hv, h⟩ := xbind h
          refine x_getR (k0 := 0) (pc := 73) B dX3_count_73 rfl xi_3 (by decide) ⟨rfl, rfl, rfl⟩ xt_117 hv ?_
          obtain ⟨q6, hq, h⟩ := xbind h
          refine x_callV1 (st := []) (pc := 76) B dX3_count_76 (eX0_isHolding hq) xt_404 xt_54 np_X0_isHolding hy_X0_isHolding (Nat.le_of_ble_eq_true rfl) (Nat.le_of_ble_eq_true rfl) (Nat.le_of_ble_eq_true rfl) xt_402 xt_403 xt_401 rfl (iX0_isHolding hq) rfl ?_
          rcases xite h with ⟨hc, h⟩ | ⟨hc, h⟩
          · refine x_if_eq_t (tgt := 96) (pc := 79) B dX3_count_79 (by decide) hc ?_
            refine x_iconst (pc := 96) B dX3_count_96 xk_iconst_0 ?_
            exact x_iret (pc := 97) B hR dX3_count_97 (xzI _) h
          · refine x_if_eq_f (pc := 79) B 96 dX3_count_79 (by decide) hc ?_
            refine x_aload_n (pc := 82) B 0 dX3_count_82 rfl rfl ?_
            obtain ⟨v7, hv, h⟩ := xbind h
            refine x_getR (k0 := 0) (pc := 83) B dX3_count_83 rfl xi_3 (by decide) ⟨rfl, rfl, rfl⟩ xt_117 hv ?_
            obtain ⟨q8, hq, h⟩ := xbind h
            refine x_callV1 (st := []) (pc := 86) B dX3_count_86 (eX0_isUntempted hq) xt_301 xt_54 np_X0_isUntempted hy_X0_isUntempted (Nat.le_of_ble_eq_true rfl) (Nat.le_of_ble_eq_true rfl) (Nat.le_of_ble_eq_true rfl) xt_299 xt_300 xt_408 rfl (iX0_isUntempted hq) rfl ?_
            rcases xite h with ⟨hc, h⟩ | ⟨hc, h⟩
            · refine x_if_eq_t (tgt := 96) (pc := 89) B dX3_count_89 (by decide) hc ?_
              refine x_iconst (pc := 96) B dX3_count_96 xk_iconst_0 ?_
              exact x_iret (pc := 97) B hR dX3_count_97 (xzI _) h
            · refine x_if_eq_f (pc := 89) B 96 dX3_count_89 (by decide) hc ?_
              refine x_iconst (pc := 92) B dX3_count_92 xk_iconst_1 ?_
              refine x_goto (tgt := 97) (pc := 93) B dX3_count_93 (by decide) ?_
              exact x_iret (pc := 97) B hR dX3_count_97 (xzI _) h
        · skip
          rcases xite h with ⟨hc3, h⟩ | ⟨hc3, h⟩
          · refine x_tabIn (tgt := 98) (off := 97) (pc := 1) B dX3_count_1 (by rw [hc3]; decide +kernel) (by rw [hc3]; decide +kernel) (by rw [hc3]; decide +kernel) (by decide) ?_
            refine x_aload_n (pc := 98) B 0 dX3_count_98 rfl rfl ?_
            obtain ⟨v9, hv, h⟩ := xbind h
            refine x_getR (k0 := 0) (pc := 99) B dX3_count_99 rfl xi_3 (by decide) ⟨rfl, rfl, rfl⟩ xt_117 hv ?_
            obtain ⟨q10, hq, h⟩ := xbind h
            refine x_callV1 (st := []) (pc := 102) B dX3_count_102 (eX0_typesThere hq) xt_305 xt_54 np_X0_typesThere hy_X0_typesThere (Nat.le_of_ble_eq_true rfl) (Nat.le_of_ble_eq_true rfl) (Nat.le_of_ble_eq_true rfl) xt_303 xt_304 xt_362 rfl (iX0_typesThere hq) rfl ?_
            exact x_iret (pc := 105) B hR dX3_count_105 (xzI _) h
          · skip
            rcases xite h with ⟨hc4, h⟩ | ⟨hc4, h⟩
            · refine x_tabIn (tgt := 106) (off := 105) (pc := 1) B dX3_count_1 (by rw [hc4]; decide +kernel) (by rw [hc4]; decide +kernel) (by rw [hc4]; decide +kernel) (by decide) ?_
              refine x_aload_n (pc := 106) B 0 dX3_count_106 rfl rfl ?_
              obtain ⟨v11, hv, h⟩ := xbind h
              refine x_getR (k0 := 0) (pc := 107) B dX3_count_107 rfl xi_3 (by decide) ⟨rfl, rfl, rfl⟩ xt_117 hv ?_
              obtain ⟨q12, hq, h⟩ := xbind h
              refine x_callV1 (st := []) (pc := 110) B dX3_count_110 (eX0_messagesSent hq) xt_335 xt_54 np_X0_messagesSent hy_X0_messagesSent (Nat.le_of_ble_eq_true rfl) (Nat.le_of_ble_eq_true rfl) (Nat.le_of_ble_eq_true rfl) xt_333 xt_334 xt_409 rfl (iX0_messagesSent hq) rfl ?_
              exact x_iret (pc := 113) B hR dX3_count_113 (xzI _) h
            · skip
              rcases xite h with ⟨hc5, h⟩ | ⟨hc5, h⟩
              · refine x_tabIn (tgt := 114) (off := 113) (pc := 1) B dX3_count_1 (by rw [hc5]; decide +kernel) (by rw [hc5]; decide +kernel) (by rw [hc5]; decide +kernel) (by decide) ?_
                refine x_aload_n (pc := 114) B 0 dX3_count_114 rfl rfl ?_
                obtain ⟨v13, hv, h⟩ := xbind h
                refine x_getR (k0 := 0) (pc := 115) B dX3_count_115 rfl xi_3 (by decide) ⟨rfl, rfl, rfl⟩ xt_117 hv ?_
                obtain ⟨q14, hq, h⟩ := xbind h
                refine x_callV1 (st := []) (pc := 118) B dX3_count_118 (eX0_code hq) xt_413 xt_54 np_X0_code hy_X0_code (Nat.le_of_ble_eq_true rfl) (Nat.le_of_ble_eq_true rfl) (Nat.le_of_ble_eq_true rfl) xt_411 xt_412 xt_410 rfl (iX0_code hq) rfl ?_
                exact x_iret (pc := 121) B hR dX3_count_121 (xzI _) h
              · skip
                rcases xite h with ⟨hc6, h⟩ | ⟨hc6, h⟩
                · refine x_tabIn (tgt := 122) (off := 121) (pc := 1) B dX3_count_1 (by rw [hc6]; decide +kernel) (by rw [hc6]; decide +kernel) (by rw [hc6]; decide +kernel) (by decide) ?_
                  refine x_aload_n (pc := 122) B 0 dX3_count_122 rfl rfl ?_
                  obtain ⟨v15, hv, h⟩ := xbind h
                  refine x_getR (k0 := 2) (pc := 123) B dX3_count_123 rfl xi_3 (by decide) ⟨rfl, rfl, rfl⟩ xt_119 hv ?_
                  obtain ⟨q16, hq, h⟩ := xbind h
                  refine x_callV1 (st := []) (pc := 126) B dX3_count_126 (eX1_length hq) xt_417 xt_57 np_X1_length hy_X1_length (Nat.le_of_ble_eq_true rfl) (Nat.le_of_ble_eq_true rfl) (Nat.le_of_ble_eq_true rfl) xt_415 xt_416 xt_414 rfl (iX1_length hq) rfl ?_
                  exact x_iret (pc := 129) B hR dX3_count_129 (xzI _) h
                · skip
                  rcases xite h with ⟨hc7, h⟩ | ⟨hc7, h⟩
                  · refine x_tabIn (tgt := 130) (off := 129) (pc := 1) B dX3_count_1 (by rw [hc7]; decide +kernel) (by rw [hc7]; decide +kernel) (by rw [hc7]; decide +kernel) (by decide) ?_
                    refine x_aload_n (pc := 130) B 0 dX3_count_130 rfl rfl ?_
                    obtain ⟨v17, hv, h⟩ := xbind h
                    refine x_getI (k0 := 6) (pc := 131) B dX3_count_131 rfl xi_3 (by decide) ⟨rfl, rfl, rfl⟩ xt_123 hv ?_
                    exact x_iret (pc := 134) B hR dX3_count_134 (xzI _) h
                  · skip
                    refine x_tabOut (tgt := 135) (pc := 1) B dX3_count_1 ?_ (by decide) ?_
                    · have hz0 := lv_neT hc0 (a := 0) (by decide +kernel)
                      have hz1 := lv_neT hc1 (a := 1) (by decide +kernel)
                      have hz2 := lv_neT hc2 (a := 2) (by decide +kernel)
                      have hz3 := lv_neT hc3 (a := 3) (by decide +kernel)
                      have hz4 := lv_neT hc4 (a := 4) (by decide +kernel)
                      have hz5 := lv_neT hc5 (a := 5) (by decide +kernel)
                      have hz6 := lv_neT hc6 (a := 6) (by decide +kernel)
                      have hz7 := lv_neT hc7 (a := 7) (by decide +kernel)
                      omega
                    refine x_bipush (pc := 135) B dX3_count_135 xk_bipush_m2 ?_
                    exact x_iret (pc := 137) B hR dX3_count_137 (xzI _) h
  · exact absurd h (by simp)
def fX3_plans (a0 : Nat) (i1 : Int32) (w : XW) : Option (Int32 × XW) := if xis w a0 3 = true then
  (fX3_isWithin i1 (5 : Int32) w).bind fun q1 =>
  if q1.1 = (0 : Int32) then
    some ((-2 : Int32), q1.2)
  else
  (xgR q1.2 a0 3 1).bind fun v2 =>
  (xgR q1.2 a0 3 0).bind fun v3 =>
  (fX2_numberOf v2 v3 i1 q1.2).bind fun q4 =>
  some (q4.1, q4.2)
  else none
theorem iX3_plans {a0 : Nat} {i1 : Int32} {w : XW} {R9 : (Int32 × XW)} (h : fX3_plans a0 i1 w = some R9) : xis w a0 3 = true := by
  unfold fX3_plans at h
  rcases xite h with ⟨hc, h⟩ | ⟨hc, h⟩
  · exact hc
  · exact absurd h (by simp)
theorem np_X3_plans : (parseMethodDescriptor yX3_plans.desc).map (fun d => d.parameters.length) = some 1 := by decide +kernel
theorem hy_X3_plans : yX3_plans.cls ≠ "java/lang/invoke/MethodHandle" ∧ yX3_plans.cls ≠ "java/lang/invoke/VarHandle" := ⟨by decide +kernel, by decide +kernel⟩
set_option maxRecDepth 20000 in
theorem eX3_plans {cx : CX} {a0 : Nat} {i1 : Int32} {w : XW} {R9 : (Int32 × XW)} (h : fX3_plans a0 i1 w = some R9) : Ct yX3_plans cX3_plans 2 (some .int) 7 180 cx [.ref a0, .int i1] w (some (.int R9.1)) R9.2 := by
  refine Ct_of (by decide +kernel) (Nat.le_of_ble_eq_true rfl) (fun K B hR => ?_)
  rw [fX3_plans] at h
  show Wx K cx 2 w.length 0 [(0, .ref a0), (1, .int i1)] [] w
  rcases xite h with ⟨hc, h⟩ | ⟨hc, h⟩
  · skip
    refine x_iload_n (pc := 0) B 1 dX3_plans_0 rfl rfl ?_
    refine x_iconst (pc := 1) B dX3_plans_1 xk_iconst_5 ?_
    obtain ⟨q1, hq, h⟩ := xbind h
    refine x_callS1 (st := []) (pc := 2) B dX3_plans_2 (eX3_isWithin hq) xt_142 xt_53 np_X3_isWithin hy_X3_isWithin (Nat.le_of_ble_eq_true rfl) (Nat.le_of_ble_eq_true rfl) (Nat.le_of_ble_eq_true rfl) xt_141 xt_140 rfl ?_
    rcases xite h with ⟨hc, h⟩ | ⟨hc, h⟩
    · refine x_if_ne_f (pc := 5) B 11 dX3_plans_5 (by decide) hc ?_
      refine x_bipush (pc := 8) B dX3_plans_8 xk_bipush_m2 ?_
      exact x_iret (pc := 10) B hR dX3_plans_10 (xzI _) h
    · refine x_if_ne_t (tgt := 11) (pc := 5) B dX3_plans_5 (by decide) hc ?_
      refine x_aload_n (pc := 11) B 0 dX3_plans_11 rfl rfl ?_
      obtain ⟨v2, hv, h⟩ := xbind h
      refine x_getR (k0 := 1) (pc := 12) B dX3_plans_12 rfl xi_3 (by decide) ⟨rfl, rfl, rfl⟩ xt_118 hv ?_
      refine x_aload_n (pc := 15) B 0 dX3_plans_15 rfl rfl ?_
      obtain ⟨v3, hv, h⟩ := xbind h
      refine x_getR (k0 := 0) (pc := 16) B dX3_plans_16 rfl xi_3 (by decide) ⟨rfl, rfl, rfl⟩ xt_117 hv ?_
      refine x_iload_n (pc := 19) B 1 dX3_plans_19 rfl rfl ?_
      obtain ⟨q4, hq, h⟩ := xbind h
      refine x_callV1 (st := []) (pc := 20) B dX3_plans_20 (eX2_numberOf hq) xt_224 xt_56 np_X2_numberOf hy_X2_numberOf (Nat.le_of_ble_eq_true rfl) (Nat.le_of_ble_eq_true rfl) (Nat.le_of_ble_eq_true rfl) xt_222 xt_223 xt_221 rfl (iX2_numberOf hq) rfl ?_
      exact x_iret (pc := 23) B hR dX3_plans_23 (xzI _) h
  · exact absurd h (by simp)
def fX3_planAt (a0 : Nat) (i1 : Int32) (w : XW) : Option (Int32 × XW) := if xis w a0 3 = true then
  (xgR w a0 3 1).bind fun v1 =>
  (xgR w a0 3 0).bind fun v2 =>
  (fX2_numberOf v1 v2 (0 : Int32) w).bind fun q3 =>
  (fX3_isWithin i1 q3.1 q3.2).bind fun q4 =>
  if q4.1 = (0 : Int32) then
    some ((-1 : Int32), q4.2)
  else
  (xgR q4.2 a0 3 1).bind fun v5 =>
  (fX2_codeAt v5 i1 q4.2).bind fun q6 =>
  some (q6.1, q6.2)
  else none
theorem iX3_planAt {a0 : Nat} {i1 : Int32} {w : XW} {R9 : (Int32 × XW)} (h : fX3_planAt a0 i1 w = some R9) : xis w a0 3 = true := by
  unfold fX3_planAt at h
  rcases xite h with ⟨hc, h⟩ | ⟨hc, h⟩
  · exact hc
  · exact absurd h (by simp)
theorem np_X3_planAt : (parseMethodDescriptor yX3_planAt.desc).map (fun d => d.parameters.length) = some 1 := by decide +kernel
theorem hy_X3_planAt : yX3_planAt.cls ≠ "java/lang/invoke/MethodHandle" ∧ yX3_planAt.cls ≠ "java/lang/invoke/VarHandle" := ⟨by decide +kernel, by decide +kernel⟩
set_option maxRecDepth 20000 in
theorem eX3_planAt {cx : CX} {a0 : Nat} {i1 : Int32} {w : XW} {R9 : (Int32 × XW)} (h : fX3_planAt a0 i1 w = some R9) : Ct yX3_planAt cX3_planAt 2 (some .int) 7 180 cx [.ref a0, .int i1] w (some (.int R9.1)) R9.2 := by
  refine Ct_of (by decide +kernel) (Nat.le_of_ble_eq_true rfl) (fun K B hR => ?_)
  rw [fX3_planAt] at h
  show Wx K cx 2 w.length 0 [(0, .ref a0), (1, .int i1)] [] w
  rcases xite h with ⟨hc, h⟩ | ⟨hc, h⟩
  · skip
    refine x_iload_n (pc := 0) B 1 dX3_planAt_0 rfl rfl ?_
    refine x_aload_n (pc := 1) B 0 dX3_planAt_1 rfl rfl ?_
    obtain ⟨v1, hv, h⟩ := xbind h
    refine x_getR (k0 := 1) (pc := 2) B dX3_planAt_2 rfl xi_3 (by decide) ⟨rfl, rfl, rfl⟩ xt_118 hv ?_
    refine x_aload_n (pc := 5) B 0 dX3_planAt_5 rfl rfl ?_
    obtain ⟨v2, hv, h⟩ := xbind h
    refine x_getR (k0 := 0) (pc := 6) B dX3_planAt_6 rfl xi_3 (by decide) ⟨rfl, rfl, rfl⟩ xt_117 hv ?_
    refine x_iconst (pc := 9) B dX3_planAt_9 xk_iconst_0 ?_
    obtain ⟨q3, hq, h⟩ := xbind h
    refine x_callV1 (st := [.int i1]) (pc := 10) B dX3_planAt_10 (eX2_numberOf hq) xt_224 xt_56 np_X2_numberOf hy_X2_numberOf (Nat.le_of_ble_eq_true rfl) (Nat.le_of_ble_eq_true rfl) (Nat.le_of_ble_eq_true rfl) xt_222 xt_223 xt_221 rfl (iX2_numberOf hq) rfl ?_
    obtain ⟨q4, hq, h⟩ := xbind h
    refine x_callS1 (st := []) (pc := 13) B dX3_planAt_13 (eX3_isWithin hq) xt_142 xt_53 np_X3_isWithin hy_X3_isWithin (Nat.le_of_ble_eq_true rfl) (Nat.le_of_ble_eq_true rfl) (Nat.le_of_ble_eq_true rfl) xt_141 xt_140 rfl ?_
    rcases xite h with ⟨hc, h⟩ | ⟨hc, h⟩
    · refine x_if_ne_f (pc := 16) B 21 dX3_planAt_16 (by decide) hc ?_
      refine x_iconst (pc := 19) B dX3_planAt_19 xk_iconst_m1 ?_
      exact x_iret (pc := 20) B hR dX3_planAt_20 (xzI _) h
    · refine x_if_ne_t (tgt := 21) (pc := 16) B dX3_planAt_16 (by decide) hc ?_
      refine x_aload_n (pc := 21) B 0 dX3_planAt_21 rfl rfl ?_
      obtain ⟨v5, hv, h⟩ := xbind h
      refine x_getR (k0 := 1) (pc := 22) B dX3_planAt_22 rfl xi_3 (by decide) ⟨rfl, rfl, rfl⟩ xt_118 hv ?_
      refine x_iload_n (pc := 25) B 1 dX3_planAt_25 rfl rfl ?_
      obtain ⟨q6, hq, h⟩ := xbind h
      refine x_callV1 (st := []) (pc := 26) B dX3_planAt_26 (eX2_codeAt hq) xt_297 xt_56 np_X2_codeAt hy_X2_codeAt (Nat.le_of_ble_eq_true rfl) (Nat.le_of_ble_eq_true rfl) (Nat.le_of_ble_eq_true rfl) xt_295 xt_296 xt_342 rfl (iX2_codeAt hq) rfl ?_
      exact x_iret (pc := 29) B hR dX3_planAt_29 (xzI _) h
  · exact absurd h (by simp)
def fX3_lowestIn_2 : Nat → Int32 → Int32 → XW → Option (Int32 × XW)
  | 0, _, _, _ => none
  | g + 1, i0, i1, w =>
    if (3 : Int32) ≤ i1 then
      some ((-6 : Int32), w)
    else
    (fX3_has i0 i1 w).bind fun q1 =>
    if q1.1 = (0 : Int32) then
      fX3_lowestIn_2 g i0 (i1 + (1 : Int32)) q1.2
    else
    some (i1, q1.2)
set_option maxRecDepth 20000 in
theorem pX3_lowestIn_2 {K : KX} {cx : CX} {nn : Nat} {R9 : Int32 × XW} (B : XB K cx RX3 cX3_lowestIn 2 nn 1 21) (hR : XR K cx nn (some .int) (some (.int R9.1)) R9.2) : ∀ (g : Nat) (i0 : Int32) (i1 : Int32) (w : XW), fX3_lowestIn_2 g i0 i1 w = some R9 → Wx K cx 2 nn 2 [(0, .int i0), (1, .int i1)] [] w := by
  intro g
  induction g with
  | zero =>
    intro i0 i1 w h
    exact absurd (show (none : Option (Int32 × XW)) = some R9 from h) (by simp)
  | succ g ih =>
    intro i0 i1 w h
    rw [fX3_lowestIn_2] at h
    refine x_iload_n (pc := 2) B 1 dX3_lowestIn_2 rfl rfl ?_
    refine x_iconst (pc := 3) B dX3_lowestIn_3 xk_iconst_3 ?_
    rcases xite h with ⟨hc, h⟩ | ⟨hc, h⟩
    · refine x_icmp_ge_t (tgt := 23) (pc := 4) B dX3_lowestIn_4 (by decide) hc ?_
      refine x_bipush (pc := 23) B dX3_lowestIn_23 xk_bipush_m6 ?_
      exact x_iret (pc := 25) B hR dX3_lowestIn_25 (xzI _) h
    · refine x_icmp_ge_f (pc := 4) B 23 dX3_lowestIn_4 (by decide) hc ?_
      refine x_iload_n (pc := 7) B 0 dX3_lowestIn_7 rfl rfl ?_
      refine x_iload_n (pc := 8) B 1 dX3_lowestIn_8 rfl rfl ?_
      obtain ⟨q1, hq, h⟩ := xbind h
      refine x_callS1 (st := []) (pc := 9) B dX3_lowestIn_9 (eX3_has hq) xt_265 xt_53 np_X3_has hy_X3_has (Nat.le_of_ble_eq_true rfl) (Nat.le_of_ble_eq_true rfl) (Nat.le_of_ble_eq_true rfl) xt_264 xt_433 rfl ?_
      rcases xite h with ⟨hc, h⟩ | ⟨hc, h⟩
      · refine x_if_eq_t (tgt := 17) (pc := 12) B dX3_lowestIn_12 (by decide) hc ?_
        refine x_iinc (L1 := [(1, .int (i1 + (1 : Int32))), (0, .int i0)]) (pc := 17) B 1 dX3_lowestIn_17 rfl (congrArg _ xk_iconst_1) (by decide) rfl ?_
        refine x_goto (tgt := 2) (pc := 20) B dX3_lowestIn_20 (by decide) ?_
        refine x_sub (L1 := [(0, .int i0), (1, .int (i1 + (1 : Int32)))]) [1, 0] rfl ?_
        exact ih i0 (i1 + (1 : Int32)) q1.2 h
      · refine x_if_eq_f (pc := 12) B 17 dX3_lowestIn_12 (by decide) hc ?_
        refine x_iload_n (pc := 15) B 1 dX3_lowestIn_15 rfl rfl ?_
        exact x_iret (pc := 16) B hR dX3_lowestIn_16 (xzI _) h
def fX3_lowestIn (i0 : Int32) (w : XW) : Option (Int32 × XW) :=
  fX3_lowestIn_2 1000 i0 (0 : Int32) w
theorem np_X3_lowestIn : (parseMethodDescriptor yX3_lowestIn.desc).map (fun d => d.parameters.length) = some 1 := by decide +kernel
theorem hy_X3_lowestIn : yX3_lowestIn.cls ≠ "java/lang/invoke/MethodHandle" ∧ yX3_lowestIn.cls ≠ "java/lang/invoke/VarHandle" := ⟨by decide +kernel, by decide +kernel⟩
set_option maxRecDepth 20000 in
theorem eX3_lowestIn {cx : CX} {i0 : Int32} {w : XW} {R9 : (Int32 × XW)} (h : fX3_lowestIn i0 w = some R9) : Ct yX3_lowestIn cX3_lowestIn 2 (some .int) 1 21 cx [.int i0] w (some (.int R9.1)) R9.2 := by
  refine Ct_of (by decide +kernel) (Nat.le_of_ble_eq_true rfl) (fun K B hR => ?_)
  rw [fX3_lowestIn] at h
  show Wx K cx 2 w.length 0 [(0, .int i0)] [] w
  refine x_iconst (pc := 0) B dX3_lowestIn_0 xk_iconst_0 ?_
  refine x_istore_n (L1 := [(1, .int (0 : Int32)), (0, .int i0)]) (pc := 1) B dX3_lowestIn_1 rfl (by decide) rfl ?_
  refine x_sub (L1 := [(0, .int i0), (1, .int (0 : Int32))]) [1, 0] rfl ?_
  exact pX3_lowestIn_2 B hR 1000 i0 (0 : Int32) w h
def fX3_bestAnswer (a0 : Nat) (i1 : Int32) (w : XW) : Option (Int32 × XW) := if xis w a0 3 = true then
  (fX3_isWithin i1 (3 : Int32) w).bind fun q1 =>
  if q1.1 = (0 : Int32) then
    some ((-1 : Int32), q1.2)
  else
  (xgR q1.2 a0 3 0).bind fun v2 =>
  (fX0_bestActions v2 i1 q1.2).bind fun q3 =>
  (fX3_lowestIn q3.1 q3.2).bind fun q4 =>
  some (q4.1, q4.2)
  else none
theorem iX3_bestAnswer {a0 : Nat} {i1 : Int32} {w : XW} {R9 : (Int32 × XW)} (h : fX3_bestAnswer a0 i1 w = some R9) : xis w a0 3 = true := by
  unfold fX3_bestAnswer at h
  rcases xite h with ⟨hc, h⟩ | ⟨hc, h⟩
  · exact hc
  · exact absurd h (by simp)
theorem np_X3_bestAnswer : (parseMethodDescriptor yX3_bestAnswer.desc).map (fun d => d.parameters.length) = some 1 := by decide +kernel
theorem hy_X3_bestAnswer : yX3_bestAnswer.cls ≠ "java/lang/invoke/MethodHandle" ∧ yX3_bestAnswer.cls ≠ "java/lang/invoke/VarHandle" := ⟨by decide +kernel, by decide +kernel⟩
set_option maxRecDepth 20000 in
theorem eX3_bestAnswer {cx : CX} {a0 : Nat} {i1 : Int32} {w : XW} {R9 : (Int32 × XW)} (h : fX3_bestAnswer a0 i1 w = some R9) : Ct yX3_bestAnswer cX3_bestAnswer 2 (some .int) 4 100 cx [.ref a0, .int i1] w (some (.int R9.1)) R9.2 := by
  refine Ct_of (by decide +kernel) (Nat.le_of_ble_eq_true rfl) (fun K B hR => ?_)
  rw [fX3_bestAnswer] at h
  show Wx K cx 2 w.length 0 [(0, .ref a0), (1, .int i1)] [] w
  rcases xite h with ⟨hc, h⟩ | ⟨hc, h⟩
  · skip
    refine x_iload_n (pc := 0) B 1 dX3_bestAnswer_0 rfl rfl ?_
    refine x_iconst (pc := 1) B dX3_bestAnswer_1 xk_iconst_3 ?_
    obtain ⟨q1, hq, h⟩ := xbind h
    refine x_callS1 (st := []) (pc := 2) B dX3_bestAnswer_2 (eX3_isWithin hq) xt_142 xt_53 np_X3_isWithin hy_X3_isWithin (Nat.le_of_ble_eq_true rfl) (Nat.le_of_ble_eq_true rfl) (Nat.le_of_ble_eq_true rfl) xt_141 xt_140 rfl ?_
    rcases xite h with ⟨hc, h⟩ | ⟨hc, h⟩
    · refine x_if_ne_f (pc := 5) B 10 dX3_bestAnswer_5 (by decide) hc ?_
      refine x_iconst (pc := 8) B dX3_bestAnswer_8 xk_iconst_m1 ?_
      exact x_iret (pc := 9) B hR dX3_bestAnswer_9 (xzI _) h
    · refine x_if_ne_t (tgt := 10) (pc := 5) B dX3_bestAnswer_5 (by decide) hc ?_
      refine x_aload_n (pc := 10) B 0 dX3_bestAnswer_10 rfl rfl ?_
      obtain ⟨v2, hv, h⟩ := xbind h
      refine x_getR (k0 := 0) (pc := 11) B dX3_bestAnswer_11 rfl xi_3 (by decide) ⟨rfl, rfl, rfl⟩ xt_117 hv ?_
      refine x_iload_n (pc := 14) B 1 dX3_bestAnswer_14 rfl rfl ?_
      obtain ⟨q3, hq, h⟩ := xbind h
      refine x_callV1 (st := []) (pc := 15) B dX3_bestAnswer_15 (eX0_bestActions hq) xt_253 xt_54 np_X0_bestActions hy_X0_bestActions (Nat.le_of_ble_eq_true rfl) (Nat.le_of_ble_eq_true rfl) (Nat.le_of_ble_eq_true rfl) xt_251 xt_252 xt_360 rfl (iX0_bestActions hq) rfl ?_
      obtain ⟨q4, hq, h⟩ := xbind h
      refine x_callS1 (st := []) (pc := 18) B dX3_bestAnswer_18 (eX3_lowestIn hq) xt_432 xt_53 np_X3_lowestIn hy_X3_lowestIn (Nat.le_of_ble_eq_true rfl) (Nat.le_of_ble_eq_true rfl) (Nat.le_of_ble_eq_true rfl) xt_431 xt_430 rfl ?_
      exact x_iret (pc := 21) B hR dX3_bestAnswer_21 (xzI _) h
  · exact absurd h (by simp)
def fX3_bestPlan_12 (a0 : Nat) (i1 : Int32) (w : XW) : Option (Int32 × XW) :=
  (xgR w a0 3 1).bind fun v1 =>
  (xgR w a0 3 0).bind fun v2 =>
  (fX2_bestPlace v1 v2 w).bind fun q3 =>
  if q3.1 = (-6 : Int32) then
    some ((-6 : Int32), q3.2)
  else
  if i1 = (0 : Int32) then
    (xgR q3.2 a0 3 1).bind fun v4 =>
    (fX2_codeAt v4 q3.1 q3.2).bind fun q5 =>
    some (q5.1, q5.2)
  else
  (xgR q3.2 a0 3 1).bind fun v6 =>
  (fX2_receiverSumAt v6 q3.1 q3.2).bind fun q7 =>
  some ((q7.1 + (1000 : Int32)), q7.2)
set_option maxRecDepth 20000 in
theorem pX3_bestPlan_12 {K : KX} {cx : CX} {nn : Nat} {R9 : Int32 × XW} (B : XB K cx RX3 cX3_bestPlan 3 nn 7 174) (hR : XR K cx nn (some .int) (some (.int R9.1)) R9.2) : ∀ (a0 : Nat) (i1 : Int32) (w : XW), fX3_bestPlan_12 a0 i1 w = some R9 → Wx K cx 3 nn 12 [(0, .ref a0), (1, .int i1)] [] w := by
  intro a0 i1 w h
  rw [fX3_bestPlan_12] at h
  refine x_aload_n (pc := 12) B 0 dX3_bestPlan_12 rfl rfl ?_
  obtain ⟨v1, hv, h⟩ := xbind h
  refine x_getR (k0 := 1) (pc := 13) B dX3_bestPlan_13 rfl xi_3 (by decide) ⟨rfl, rfl, rfl⟩ xt_118 hv ?_
  refine x_aload_n (pc := 16) B 0 dX3_bestPlan_16 rfl rfl ?_
  obtain ⟨v2, hv, h⟩ := xbind h
  refine x_getR (k0 := 0) (pc := 17) B dX3_bestPlan_17 rfl xi_3 (by decide) ⟨rfl, rfl, rfl⟩ xt_117 hv ?_
  obtain ⟨q3, hq, h⟩ := xbind h
  refine x_callV1 (st := []) (pc := 20) B dX3_bestPlan_20 (eX2_bestPlace hq) xt_441 xt_56 np_X2_bestPlace hy_X2_bestPlace (Nat.le_of_ble_eq_true rfl) (Nat.le_of_ble_eq_true rfl) (Nat.le_of_ble_eq_true rfl) xt_439 xt_440 xt_438 rfl (iX2_bestPlace hq) rfl ?_
  refine x_istore_n (L1 := [(2, .int q3.1), (0, .ref a0), (1, .int i1)]) (pc := 23) B dX3_bestPlan_23 rfl (by decide) rfl ?_
  refine x_iload_n (pc := 24) B 0 dX3_bestPlan_24 rfl rfl ?_
  refine x_bipush (pc := 25) B dX3_bestPlan_25 xk_bipush_m6 ?_
  rcases xite h with ⟨hc, h⟩ | ⟨hc, h⟩
  · refine x_icmp_ne_f (pc := 27) B 33 dX3_bestPlan_27 (by decide) hc ?_
    refine x_bipush (pc := 30) B dX3_bestPlan_30 xk_bipush_m6 ?_
    exact x_iret (pc := 32) B hR dX3_bestPlan_32 (xzI _) h
  · refine x_icmp_ne_t (tgt := 33) (pc := 27) B dX3_bestPlan_27 (by decide) hc ?_
    refine x_iload_n (pc := 33) B 2 dX3_bestPlan_33 rfl rfl ?_
    rcases xite h with ⟨hc, h⟩ | ⟨hc, h⟩
    · refine x_if_ne_f (pc := 34) B 48 dX3_bestPlan_34 (by decide) hc ?_
      refine x_aload_n (pc := 37) B 1 dX3_bestPlan_37 rfl rfl ?_
      obtain ⟨v4, hv, h⟩ := xbind h
      refine x_getR (k0 := 1) (pc := 38) B dX3_bestPlan_38 rfl xi_3 (by decide) ⟨rfl, rfl, rfl⟩ xt_118 hv ?_
      refine x_iload_n (pc := 41) B 0 dX3_bestPlan_41 rfl rfl ?_
      obtain ⟨q5, hq, h⟩ := xbind h
      refine x_callV1 (st := []) (pc := 42) B dX3_bestPlan_42 (eX2_codeAt hq) xt_297 xt_56 np_X2_codeAt hy_X2_codeAt (Nat.le_of_ble_eq_true rfl) (Nat.le_of_ble_eq_true rfl) (Nat.le_of_ble_eq_true rfl) xt_295 xt_296 xt_342 rfl (iX2_codeAt hq) rfl ?_
      refine x_goto (tgt := 60) (pc := 45) B dX3_bestPlan_45 (by decide) ?_
      exact x_iret (pc := 60) B hR dX3_bestPlan_60 (xzI _) h
    · refine x_if_ne_t (tgt := 48) (pc := 34) B dX3_bestPlan_34 (by decide) hc ?_
      refine x_aload_n (pc := 48) B 1 dX3_bestPlan_48 rfl rfl ?_
      obtain ⟨v6, hv, h⟩ := xbind h
      refine x_getR (k0 := 1) (pc := 49) B dX3_bestPlan_49 rfl xi_3 (by decide) ⟨rfl, rfl, rfl⟩ xt_118 hv ?_
      refine x_iload_n (pc := 52) B 0 dX3_bestPlan_52 rfl rfl ?_
      obtain ⟨q7, hq, h⟩ := xbind h
      refine x_callV1 (st := []) (pc := 53) B dX3_bestPlan_53 (eX2_receiverSumAt hq) xt_445 xt_56 np_X2_receiverSumAt hy_X2_receiverSumAt (Nat.le_of_ble_eq_true rfl) (Nat.le_of_ble_eq_true rfl) (Nat.le_of_ble_eq_true rfl) xt_443 xt_444 xt_450 rfl (iX2_receiverSumAt hq) rfl ?_
      refine x_sipush (pc := 56) B dX3_bestPlan_56 xk_sipush_1000 ?_
      refine x_iadd (pc := 59) B dX3_bestPlan_59 ?_
      exact x_iret (pc := 60) B hR dX3_bestPlan_60 (xzI _) h
def fX3_bestPlan (a0 : Nat) (i1 : Int32) (w : XW) : Option (Int32 × XW) := if xis w a0 3 = true then
  if i1 = (0 : Int32) then
    fX3_bestPlan_12 a0 i1 w
  else
  if i1 = (1 : Int32) then
    fX3_bestPlan_12 a0 i1 w
  else
  some ((-2 : Int32), w)
  else none
theorem iX3_bestPlan {a0 : Nat} {i1 : Int32} {w : XW} {R9 : (Int32 × XW)} (h : fX3_bestPlan a0 i1 w = some R9) : xis w a0 3 = true := by
  unfold fX3_bestPlan at h
  rcases xite h with ⟨hc, h⟩ | ⟨hc, h⟩
  · exact hc
  · exact absurd h (by simp)
theorem np_X3_bestPlan : (parseMethodDescriptor yX3_bestPlan.desc).map (fun d => d.parameters.length) = some 1 := by decide +kernel
theorem hy_X3_bestPlan : yX3_bestPlan.cls ≠ "java/lang/invoke/MethodHandle" ∧ yX3_bestPlan.cls ≠ "java/lang/invoke/VarHandle" := ⟨by decide +kernel, by decide +kernel⟩
set_option maxRecDepth 20000 in
theorem eX3_bestPlan {cx : CX} {a0 : Nat} {i1 : Int32} {w : XW} {R9 : (Int32 × XW)} (h : fX3_bestPlan a0 i1 w = some R9) : Ct yX3_bestPlan cX3_bestPlan 3 (some .int) 7 174 cx [.ref a0, .int i1] w (some (.int R9.1)) R9.2 := by
  refine Ct_of (by decide +kernel) (Nat.le_of_ble_eq_true rfl) (fun K B hR => ?_)
  rw [fX3_bestPlan] at h
  show Wx K cx 3 w.length 0 [(0, .ref a0), (1, .int i1)] [] w
  rcases xite h with ⟨hc, h⟩ | ⟨hc, h⟩
  · skip
    refine x_iload_n (pc := 0) B 1 dX3_bestPlan_0 rfl rfl ?_
    rcases xite h with ⟨hc, h⟩ | ⟨hc, h⟩
    · refine x_if_eq_t (tgt := 12) (pc := 1) B dX3_bestPlan_1 (by decide) hc ?_
      exact pX3_bestPlan_12 B hR a0 i1 w h
    · refine x_if_eq_f (pc := 1) B 12 dX3_bestPlan_1 (by decide) hc ?_
      refine x_iload_n (pc := 4) B 1 dX3_bestPlan_4 rfl rfl ?_
      refine x_iconst (pc := 5) B dX3_bestPlan_5 xk_iconst_1 ?_
      rcases xite h with ⟨hc, h⟩ | ⟨hc, h⟩
      · refine x_icmp_eq_t (tgt := 12) (pc := 6) B dX3_bestPlan_6 (by decide) hc ?_
        exact pX3_bestPlan_12 B hR a0 i1 w h
      · refine x_icmp_eq_f (pc := 6) B 12 dX3_bestPlan_6 (by decide) hc ?_
        refine x_bipush (pc := 9) B dX3_bestPlan_9 xk_bipush_m2 ?_
        exact x_iret (pc := 11) B hR dX3_bestPlan_11 (xzI _) h
  · exact absurd h (by simp)
def fX3_characterOf (l0 : Int64) (i2 : Int32) (w : XW) : Option (Int32 × XW) :=
  some (((((((l0).toUInt64 >>> ((((8 : Int32) * i2)).toInt64.toUInt64 &&& Int64.toUInt64 63)).toInt64)).toInt32) &&& (255 : Int32)), w)
theorem np_X3_characterOf : (parseMethodDescriptor yX3_characterOf.desc).map (fun d => d.parameters.length) = some 2 := by decide +kernel
theorem hy_X3_characterOf : yX3_characterOf.cls ≠ "java/lang/invoke/MethodHandle" ∧ yX3_characterOf.cls ≠ "java/lang/invoke/VarHandle" := ⟨by decide +kernel, by decide +kernel⟩
set_option maxRecDepth 20000 in
theorem eX3_characterOf {cx : CX} {l0 : Int64} {i2 : Int32} {w : XW} {R9 : (Int32 × XW)} (h : fX3_characterOf l0 i2 w = some R9) : Ct yX3_characterOf cX3_characterOf 3 (some .int) 0 0 cx [.long l0, .int i2] w (some (.int R9.1)) R9.2 := by
  refine Ct_of (by decide +kernel) (Nat.le_of_ble_eq_true rfl) (fun K B hR => ?_)
  rw [fX3_characterOf] at h
  show Wx K cx 3 w.length 0 [(0, .long l0), (2, .int i2)] [] w
  refine x_lload_n (pc := 0) B 0 dX3_characterOf_0 rfl rfl ?_
  refine x_bipush (pc := 1) B dX3_characterOf_1 xk_bipush_8 ?_
  refine x_iload_n (pc := 3) B 1 dX3_characterOf_3 rfl rfl ?_
  refine x_imul (pc := 4) B dX3_characterOf_4 ?_
  refine x_lushr (pc := 5) B dX3_characterOf_5 ?_
  refine x_l2i (pc := 6) B dX3_characterOf_6 ?_
  refine x_sipush (pc := 7) B dX3_characterOf_7 xk_sipush_255 ?_
  refine x_iand (pc := 10) B dX3_characterOf_10 ?_
  exact x_iret (pc := 11) B hR dX3_characterOf_11 (xzI _) h
def fX3_charactersIn_2 : Nat → Int64 → Int32 → XW → Option (Int32 × XW)
  | 0, _, _, _ => none
  | g + 1, l0, i2, w =>
    if (8 : Int32) ≤ i2 then
      some ((8 : Int32), w)
    else
    (fX3_characterOf l0 i2 w).bind fun q1 =>
    if q1.1 = (0 : Int32) then
      if (lg_cmp (((l0).toUInt64 >>> ((((8 : Int32) * i2)).toInt64.toUInt64 &&& Int64.toUInt64 63)).toInt64) (0 : Int64)) = (0 : Int32) then
        some (i2, q1.2)
      else
      some ((0 : Int32), q1.2)
    else
    if q1.1 < (33 : Int32) then
      some ((0 : Int32), q1.2)
    else
    if q1.1 ≤ (126 : Int32) then
      fX3_charactersIn_2 g l0 (i2 + (1 : Int32)) q1.2
    else
    some ((0 : Int32), q1.2)
set_option maxRecDepth 20000 in
theorem pX3_charactersIn_2 {K : KX} {cx : CX} {nn : Nat} {R9 : Int32 × XW} (B : XB K cx RX3 cX3_charactersIn 4 nn 1 22) (hR : XR K cx nn (some .int) (some (.int R9.1)) R9.2) : ∀ (g : Nat) (l0 : Int64) (i2 : Int32) (w : XW), fX3_charactersIn_2 g l0 i2 w = some R9 → Wx K cx 4 nn 2 [(0, .long l0), (2, .int i2)] [] w := by
  intro g
  induction g with
  | zero =>
    intro l0 i2 w h
    exact absurd (show (none : Option (Int32 × XW)) = some R9 from h) (by simp)
  | succ g ih =>
    intro l0 i2 w h
    rw [fX3_charactersIn_2] at h
    refine x_iload_n (pc := 2) B 1 dX3_charactersIn_2 rfl rfl ?_
    refine x_bipush (pc := 3) B dX3_charactersIn_3 xk_bipush_8 ?_
    rcases xite h with ⟨hc, h⟩ | ⟨hc, h⟩
    · refine x_icmp_ge_t (tgt := 55) (pc := 5) B dX3_charactersIn_5 (by decide) hc ?_
      refine x_bipush (pc := 55) B dX3_charactersIn_55 xk_bipush_8 ?_
      exact x_iret (pc := 57) B hR dX3_charactersIn_57 (xzI _) h
    · refine x_icmp_ge_f (pc := 5) B 55 dX3_charactersIn_5 (by decide) hc ?_
      refine x_lload_n (pc := 8) B 0 dX3_charactersIn_8 rfl rfl ?_
      refine x_iload_n (pc := 9) B 1 dX3_charactersIn_9 rfl rfl ?_
      obtain ⟨q1, hq, h⟩ := xbind h
      refine x_callS1 (st := []) (pc := 10) B dX3_charactersIn_10 (eX3_characterOf hq) xt_460 xt_53 np_X3_characterOf hy_X3_characterOf (Nat.le_of_ble_eq_true rfl) (Nat.le_of_ble_eq_true rfl) (Nat.le_of_ble_eq_true rfl) xt_459 xt_458 rfl ?_
      refine x_istore_n (L1 := [(3, .int q1.1), (0, .long l0), (2, .int i2)]) (pc := 13) B dX3_charactersIn_13 rfl (by decide) rfl ?_
      refine x_iload_n (pc := 14) B 0 dX3_charactersIn_14 rfl rfl ?_
      rcases xite h with ⟨hc, h⟩ | ⟨hc, h⟩
      · refine x_if_ne_f (pc := 15) B 35 dX3_charactersIn_15 (by decide) hc ?_
        refine x_lload_n (pc := 18) B 1 dX3_charactersIn_18 rfl rfl ?_
        refine x_bipush (pc := 19) B dX3_charactersIn_19 xk_bipush_8 ?_
        refine x_iload_n (pc := 21) B 2 dX3_charactersIn_21 rfl rfl ?_
        refine x_imul (pc := 22) B dX3_charactersIn_22 ?_
        refine x_lushr (pc := 23) B dX3_charactersIn_23 ?_
        refine x_lconst (v := 0) (pc := 24) B dX3_charactersIn_24 (by decide) ?_
        refine x_lcmp (pc := 25) B dX3_charactersIn_25 ?_
        rcases xite h with ⟨hc, h⟩ | ⟨hc, h⟩
        · refine x_if_ne_f (pc := 26) B 33 dX3_charactersIn_26 (by decide) hc ?_
          refine x_iload_n (pc := 29) B 2 dX3_charactersIn_29 rfl rfl ?_
          refine x_goto (tgt := 34) (pc := 30) B dX3_charactersIn_30 (by decide) ?_
          exact x_iret (pc := 34) B hR dX3_charactersIn_34 (xzI _) h
        · refine x_if_ne_t (tgt := 33) (pc := 26) B dX3_charactersIn_26 (by decide) hc ?_
          refine x_iconst (pc := 33) B dX3_charactersIn_33 xk_iconst_0 ?_
          exact x_iret (pc := 34) B hR dX3_charactersIn_34 (xzI _) h
      · refine x_if_ne_t (tgt := 35) (pc := 15) B dX3_charactersIn_15 (by decide) hc ?_
        refine x_iload_n (pc := 35) B 0 dX3_charactersIn_35 rfl rfl ?_
        refine x_bipush (pc := 36) B dX3_charactersIn_36 xk_bipush_33 ?_
        rcases xite h with ⟨hc, h⟩ | ⟨hc, h⟩
        · refine x_icmp_lt_t (tgt := 47) (pc := 38) B dX3_charactersIn_38 (by decide) hc ?_
          refine x_iconst (pc := 47) B dX3_charactersIn_47 xk_iconst_0 ?_
          exact x_iret (pc := 48) B hR dX3_charactersIn_48 (xzI _) h
        · refine x_icmp_lt_f (pc := 38) B 47 dX3_charactersIn_38 (by decide) hc ?_
          refine x_iload_n (pc := 41) B 0 dX3_charactersIn_41 rfl rfl ?_
          refine x_bipush (pc := 42) B dX3_charactersIn_42 xk_bipush_126 ?_
          rcases xite h with ⟨hc, h⟩ | ⟨hc, h⟩
          · refine x_icmp_le_t (tgt := 49) (pc := 44) B dX3_charactersIn_44 (by decide) hc ?_
            refine x_iinc (L1 := [(2, .int (i2 + (1 : Int32))), (3, .int q1.1), (0, .long l0)]) (pc := 49) B 2 dX3_charactersIn_49 rfl (congrArg _ xk_iconst_1) (by decide) rfl ?_
            refine x_goto (tgt := 2) (pc := 52) B dX3_charactersIn_52 (by decide) ?_
            refine x_sub (L1 := [(0, .long l0), (2, .int (i2 + (1 : Int32)))]) [2, 0] rfl ?_
            exact ih l0 (i2 + (1 : Int32)) q1.2 h
          · refine x_icmp_le_f (pc := 44) B 49 dX3_charactersIn_44 (by decide) hc ?_
            refine x_iconst (pc := 47) B dX3_charactersIn_47 xk_iconst_0 ?_
            exact x_iret (pc := 48) B hR dX3_charactersIn_48 (xzI _) h
def fX3_charactersIn (l0 : Int64) (w : XW) : Option (Int32 × XW) :=
  fX3_charactersIn_2 1000 l0 (0 : Int32) w
theorem np_X3_charactersIn : (parseMethodDescriptor yX3_charactersIn.desc).map (fun d => d.parameters.length) = some 1 := by decide +kernel
theorem hy_X3_charactersIn : yX3_charactersIn.cls ≠ "java/lang/invoke/MethodHandle" ∧ yX3_charactersIn.cls ≠ "java/lang/invoke/VarHandle" := ⟨by decide +kernel, by decide +kernel⟩
set_option maxRecDepth 20000 in
theorem eX3_charactersIn {cx : CX} {l0 : Int64} {w : XW} {R9 : (Int32 × XW)} (h : fX3_charactersIn l0 w = some R9) : Ct yX3_charactersIn cX3_charactersIn 4 (some .int) 1 22 cx [.long l0] w (some (.int R9.1)) R9.2 := by
  refine Ct_of (by decide +kernel) (Nat.le_of_ble_eq_true rfl) (fun K B hR => ?_)
  rw [fX3_charactersIn] at h
  show Wx K cx 4 w.length 0 [(0, .long l0)] [] w
  refine x_iconst (pc := 0) B dX3_charactersIn_0 xk_iconst_0 ?_
  refine x_istore_n (L1 := [(2, .int (0 : Int32)), (0, .long l0)]) (pc := 1) B dX3_charactersIn_1 rfl (by decide) rfl ?_
  refine x_sub (L1 := [(0, .long l0), (2, .int (0 : Int32))]) [1, 0] rfl ?_
  exact pX3_charactersIn_2 B hR 1000 l0 (0 : Int32) w h
def fX3_put_34 : Nat → Nat → Int64 → Int32 → XW → Option (Int32 × XW)
  | 0, _, _, _, _ => none
  | g + 1, a0, l1, i4, w =>
    if i4 < (0 : Int32) then
      (xgR w a0 3 2).bind fun v4 =>
      (fX1_length v4 w).bind fun q5 =>
      some (q5.1, q5.2)
    else
    (xgR w a0 3 2).bind fun v6 =>
    (fX3_characterOf l1 i4 w).bind fun q7 =>
    (fX1_append v6 q7.1 q7.2).bind fun q8 =>
    fX3_put_34 g a0 l1 (i4 + (-1 : Int32)) q8
set_option maxRecDepth 20000 in
theorem pX3_put_34 {K : KX} {cx : CX} {nn : Nat} {R9 : Int32 × XW} (B : XB K cx RX3 cX3_put 5 nn 2 45) (hR : XR K cx nn (some .int) (some (.int R9.1)) R9.2) : ∀ (g : Nat) (a0 : Nat) (l1 : Int64) (i4 : Int32) (w : XW), fX3_put_34 g a0 l1 i4 w = some R9 → Wx K cx 5 nn 34 [(0, .ref a0), (1, .long l1), (4, .int i4)] [] w := by
  intro g
  induction g with
  | zero =>
    intro a0 l1 i4 w h
    exact absurd (show (none : Option (Int32 × XW)) = some R9 from h) (by simp)
  | succ g ih =>
    intro a0 l1 i4 w h
    rw [fX3_put_34] at h
    refine x_iload (pc := 34) B 2 dX3_put_34 rfl ?_
    rcases xite h with ⟨hc, h⟩ | ⟨hc, h⟩
    · refine x_if_lt_t (tgt := 58) (pc := 36) B dX3_put_36 (by decide) hc ?_
      refine x_aload_n (pc := 58) B 0 dX3_put_58 rfl rfl ?_
      obtain ⟨v4, hv, h⟩ := xbind h
      refine x_getR (k0 := 2) (pc := 59) B dX3_put_59 rfl xi_3 (by decide) ⟨rfl, rfl, rfl⟩ xt_119 hv ?_
      obtain ⟨q5, hq, h⟩ := xbind h
      refine x_callV1 (st := []) (pc := 62) B dX3_put_62 (eX1_length hq) xt_417 xt_57 np_X1_length hy_X1_length (Nat.le_of_ble_eq_true rfl) (Nat.le_of_ble_eq_true rfl) (Nat.le_of_ble_eq_true rfl) xt_415 xt_416 xt_414 rfl (iX1_length hq) rfl ?_
      exact x_iret (pc := 65) B hR dX3_put_65 (xzI _) h
    · refine x_if_lt_f (pc := 36) B 58 dX3_put_36 (by decide) hc ?_
      refine x_aload_n (pc := 39) B 0 dX3_put_39 rfl rfl ?_
      obtain ⟨v6, hv, h⟩ := xbind h
      refine x_getR (k0 := 2) (pc := 40) B dX3_put_40 rfl xi_3 (by decide) ⟨rfl, rfl, rfl⟩ xt_119 hv ?_
      refine x_lload_n (pc := 43) B 1 dX3_put_43 rfl rfl ?_
      refine x_iload (pc := 44) B 2 dX3_put_44 rfl ?_
      obtain ⟨q7, hq, h⟩ := xbind h
      refine x_callS1 (st := [.ref v6]) (pc := 46) B dX3_put_46 (eX3_characterOf hq) xt_460 xt_53 np_X3_characterOf hy_X3_characterOf (Nat.le_of_ble_eq_true rfl) (Nat.le_of_ble_eq_true rfl) (Nat.le_of_ble_eq_true rfl) xt_459 xt_458 rfl ?_
      obtain ⟨q8, hq, h⟩ := xbind h
      refine x_callV0 (st := []) (pc := 49) B dX3_put_49 (eX1_append hq) xt_464 xt_57 np_X1_append hy_X1_append (Nat.le_of_ble_eq_true rfl) (Nat.le_of_ble_eq_true rfl) (Nat.le_of_ble_eq_true rfl) xt_462 xt_463 xt_461 rfl (iX1_append hq) rfl ?_
      refine x_iinc (L1 := [(4, .int (i4 + (-1 : Int32))), (0, .ref a0), (1, .long l1)]) (pc := 52) B 2 dX3_put_52 rfl (congrArg _ xk_iconst_m1) (by decide) rfl ?_
      refine x_goto (tgt := 34) (pc := 55) B dX3_put_55 (by decide) ?_
      refine x_sub (L1 := [(0, .ref a0), (1, .long l1), (4, .int (i4 + (-1 : Int32)))]) [1, 2, 0] rfl ?_
      exact ih a0 l1 (i4 + (-1 : Int32)) q8 h
def fX3_put (a0 : Nat) (l1 : Int64) (w : XW) : Option (Int32 × XW) := if xis w a0 3 = true then
  (fX3_charactersIn l1 w).bind fun q1 =>
  if q1.1 = (0 : Int32) then
    some ((-2 : Int32), q1.2)
  else
  (xgR q1.2 a0 3 2).bind fun v2 =>
  (fX1_length v2 q1.2).bind fun q3 =>
  if (q3.1 + q1.1) ≤ (80 : Int32) then
    fX3_put_34 1000 a0 l1 (q1.1 - (1 : Int32)) q3.2
  else
  some ((-4 : Int32), q3.2)
  else none
theorem iX3_put {a0 : Nat} {l1 : Int64} {w : XW} {R9 : (Int32 × XW)} (h : fX3_put a0 l1 w = some R9) : xis w a0 3 = true := by
  unfold fX3_put at h
  rcases xite h with ⟨hc, h⟩ | ⟨hc, h⟩
  · exact hc
  · exact absurd h (by simp)
theorem np_X3_put : (parseMethodDescriptor yX3_put.desc).map (fun d => d.parameters.length) = some 1 := by decide +kernel
theorem hy_X3_put : yX3_put.cls ≠ "java/lang/invoke/MethodHandle" ∧ yX3_put.cls ≠ "java/lang/invoke/VarHandle" := ⟨by decide +kernel, by decide +kernel⟩
set_option maxRecDepth 20000 in
theorem eX3_put {cx : CX} {a0 : Nat} {l1 : Int64} {w : XW} {R9 : (Int32 × XW)} (h : fX3_put a0 l1 w = some R9) : Ct yX3_put cX3_put 5 (some .int) 2 45 cx [.ref a0, .long l1] w (some (.int R9.1)) R9.2 := by
  refine Ct_of (by decide +kernel) (Nat.le_of_ble_eq_true rfl) (fun K B hR => ?_)
  rw [fX3_put] at h
  show Wx K cx 5 w.length 0 [(0, .ref a0), (1, .long l1)] [] w
  rcases xite h with ⟨hc, h⟩ | ⟨hc, h⟩
  · skip
    refine x_lload_n (pc := 0) B 1 dX3_put_0 rfl rfl ?_
    obtain ⟨q1, hq, h⟩ := xbind h
    refine x_callS1 (st := []) (pc := 1) B dX3_put_1 (eX3_charactersIn hq) xt_457 xt_53 np_X3_charactersIn hy_X3_charactersIn (Nat.le_of_ble_eq_true rfl) (Nat.le_of_ble_eq_true rfl) (Nat.le_of_ble_eq_true rfl) xt_456 xt_455 rfl ?_
    refine x_istore_n (L1 := [(3, .int q1.1), (0, .ref a0), (1, .long l1)]) (pc := 4) B dX3_put_4 rfl (by decide) rfl ?_
    refine x_iload_n (pc := 5) B 0 dX3_put_5 rfl rfl ?_
    rcases xite h with ⟨hc, h⟩ | ⟨hc, h⟩
    · refine x_if_ne_f (pc := 6) B 12 dX3_put_6 (by decide) hc ?_
      refine x_bipush (pc := 9) B dX3_put_9 xk_bipush_m2 ?_
      exact x_iret (pc := 11) B hR dX3_put_11 (xzI _) h
    · refine x_if_ne_t (tgt := 12) (pc := 6) B dX3_put_6 (by decide) hc ?_
      refine x_aload_n (pc := 12) B 1 dX3_put_12 rfl rfl ?_
      obtain ⟨v2, hv, h⟩ := xbind h
      refine x_getR (k0 := 2) (pc := 13) B dX3_put_13 rfl xi_3 (by decide) ⟨rfl, rfl, rfl⟩ xt_119 hv ?_
      obtain ⟨q3, hq, h⟩ := xbind h
      refine x_callV1 (st := []) (pc := 16) B dX3_put_16 (eX1_length hq) xt_417 xt_57 np_X1_length hy_X1_length (Nat.le_of_ble_eq_true rfl) (Nat.le_of_ble_eq_true rfl) (Nat.le_of_ble_eq_true rfl) xt_415 xt_416 xt_414 rfl (iX1_length hq) rfl ?_
      refine x_iload_n (pc := 19) B 0 dX3_put_19 rfl rfl ?_
      refine x_iadd (pc := 20) B dX3_put_20 ?_
      refine x_bipush (pc := 21) B dX3_put_21 xk_bipush_80 ?_
      rcases xite h with ⟨hc, h⟩ | ⟨hc, h⟩
      · refine x_icmp_le_t (tgt := 29) (pc := 23) B dX3_put_23 (by decide) hc ?_
        refine x_iload_n (pc := 29) B 0 dX3_put_29 rfl rfl ?_
        refine x_iconst (pc := 30) B dX3_put_30 xk_iconst_1 ?_
        refine x_isub (pc := 31) B dX3_put_31 ?_
        refine x_istore (L1 := [(4, .int (q1.1 - (1 : Int32))), (3, .int q1.1), (0, .ref a0), (1, .long l1)]) (pc := 32) B dX3_put_32 (by decide) rfl ?_
        refine x_sub (L1 := [(0, .ref a0), (1, .long l1), (4, .int (q1.1 - (1 : Int32)))]) [2, 3, 0] rfl ?_
        exact pX3_put_34 B hR 1000 a0 l1 (q1.1 - (1 : Int32)) q3.2 h
      · refine x_icmp_le_f (pc := 23) B 29 dX3_put_23 (by decide) hc ?_
        refine x_bipush (pc := 26) B dX3_put_26 xk_bipush_m4 ?_
        exact x_iret (pc := 28) B hR dX3_put_28 (xzI _) h
  · exact absurd h (by simp)
def fX3_wipe (a0 : Nat) (w : XW) : Option (Int32 × XW) := if xis w a0 3 = true then
  (xgR w a0 3 2).bind fun v1 =>
  (fX1_length v1 w).bind fun q2 =>
  (xgR q2.2 a0 3 2).bind fun v3 =>
  (fX1_clear v3 q2.2).bind fun q4 =>
  some (q2.1, q4)
  else none
theorem iX3_wipe {a0 : Nat} {w : XW} {R9 : (Int32 × XW)} (h : fX3_wipe a0 w = some R9) : xis w a0 3 = true := by
  unfold fX3_wipe at h
  rcases xite h with ⟨hc, h⟩ | ⟨hc, h⟩
  · exact hc
  · exact absurd h (by simp)
theorem np_X3_wipe : (parseMethodDescriptor yX3_wipe.desc).map (fun d => d.parameters.length) = some 0 := by decide +kernel
theorem hy_X3_wipe : yX3_wipe.cls ≠ "java/lang/invoke/MethodHandle" ∧ yX3_wipe.cls ≠ "java/lang/invoke/VarHandle" := ⟨by decide +kernel, by decide +kernel⟩
set_option maxRecDepth 20000 in
theorem eX3_wipe {cx : CX} {a0 : Nat} {w : XW} {R9 : (Int32 × XW)} (h : fX3_wipe a0 w = some R9) : Ct yX3_wipe cX3_wipe 2 (some .int) 1 20 cx [.ref a0] w (some (.int R9.1)) R9.2 := by
  refine Ct_of (by decide +kernel) (Nat.le_of_ble_eq_true rfl) (fun K B hR => ?_)
  rw [fX3_wipe] at h
  show Wx K cx 2 w.length 0 [(0, .ref a0)] [] w
  rcases xite h with ⟨hc, h⟩ | ⟨hc, h⟩
  · skip
    refine x_aload_n (pc := 0) B 0 dX3_wipe_0 rfl rfl ?_
    obtain ⟨v1, hv, h⟩ := xbind h
    refine x_getR (k0 := 2) (pc := 1) B dX3_wipe_1 rfl xi_3 (by decide) ⟨rfl, rfl, rfl⟩ xt_119 hv ?_
    obtain ⟨q2, hq, h⟩ := xbind h
    refine x_callV1 (st := []) (pc := 4) B dX3_wipe_4 (eX1_length hq) xt_417 xt_57 np_X1_length hy_X1_length (Nat.le_of_ble_eq_true rfl) (Nat.le_of_ble_eq_true rfl) (Nat.le_of_ble_eq_true rfl) xt_415 xt_416 xt_414 rfl (iX1_length hq) rfl ?_
    refine x_istore_n (L1 := [(1, .int q2.1), (0, .ref a0)]) (pc := 7) B dX3_wipe_7 rfl (by decide) rfl ?_
    refine x_aload_n (pc := 8) B 1 dX3_wipe_8 rfl rfl ?_
    obtain ⟨v3, hv, h⟩ := xbind h
    refine x_getR (k0 := 2) (pc := 9) B dX3_wipe_9 rfl xi_3 (by decide) ⟨rfl, rfl, rfl⟩ xt_119 hv ?_
    obtain ⟨q4, hq, h⟩ := xbind h
    refine x_callV0 (st := []) (pc := 12) B dX3_wipe_12 (eX1_clear hq) xt_473 xt_57 np_X1_clear hy_X1_clear (Nat.le_of_ble_eq_true rfl) (Nat.le_of_ble_eq_true rfl) (Nat.le_of_ble_eq_true rfl) xt_471 xt_472 xt_470 rfl (iX1_clear hq) rfl ?_
    refine x_iload_n (pc := 15) B 0 dX3_wipe_15 rfl rfl ?_
    exact x_iret (pc := 16) B hR dX3_wipe_16 (xzI _) h
  · exact absurd h (by simp)
def fX3_fault (a0 : Nat) (w : XW) : Option (Int32 × XW) := if xis w a0 3 = true then
  (xgR w a0 3 2).bind fun v1 =>
  (fX1_faultPlace v1 w).bind fun q2 =>
  some (q2.1, q2.2)
  else none
theorem iX3_fault {a0 : Nat} {w : XW} {R9 : (Int32 × XW)} (h : fX3_fault a0 w = some R9) : xis w a0 3 = true := by
  unfold fX3_fault at h
  rcases xite h with ⟨hc, h⟩ | ⟨hc, h⟩
  · exact hc
  · exact absurd h (by simp)
theorem np_X3_fault : (parseMethodDescriptor yX3_fault.desc).map (fun d => d.parameters.length) = some 0 := by decide +kernel
theorem hy_X3_fault : yX3_fault.cls ≠ "java/lang/invoke/MethodHandle" ∧ yX3_fault.cls ≠ "java/lang/invoke/VarHandle" := ⟨by decide +kernel, by decide +kernel⟩
set_option maxRecDepth 20000 in
theorem eX3_fault {cx : CX} {a0 : Nat} {w : XW} {R9 : (Int32 × XW)} (h : fX3_fault a0 w = some R9) : Ct yX3_fault cX3_fault 1 (some .int) 7 153 cx [.ref a0] w (some (.int R9.1)) R9.2 := by
  refine Ct_of (by decide +kernel) (Nat.le_of_ble_eq_true rfl) (fun K B hR => ?_)
  rw [fX3_fault] at h
  show Wx K cx 1 w.length 0 [(0, .ref a0)] [] w
  rcases xite h with ⟨hc, h⟩ | ⟨hc, h⟩
  · skip
    refine x_aload_n (pc := 0) B 0 dX3_fault_0 rfl rfl ?_
    obtain ⟨v1, hv, h⟩ := xbind h
    refine x_getR (k0 := 2) (pc := 1) B dX3_fault_1 rfl xi_3 (by decide) ⟨rfl, rfl, rfl⟩ xt_119 hv ?_
    obtain ⟨q2, hq, h⟩ := xbind h
    refine x_callV1 (st := []) (pc := 4) B dX3_fault_4 (eX1_faultPlace hq) xt_481 xt_57 np_X1_faultPlace hy_X1_faultPlace (Nat.le_of_ble_eq_true rfl) (Nat.le_of_ble_eq_true rfl) (Nat.le_of_ble_eq_true rfl) xt_479 xt_480 xt_478 rfl (iX1_faultPlace hq) rfl ?_
    exact x_iret (pc := 7) B hR dX3_fault_7 (xzI _) h
  · exact absurd h (by simp)
def fX3_isChanged (a0 : Nat) (i1 : Int32) (i2 : Int32) (i3 : Int32) (w : XW) : Option (Int32 × XW) := if xis w a0 3 = true then
  if i1 = (0 : Int32) then
    (xgR w a0 3 0).bind fun v1 =>
    (fX0_change v1 i2 i3 w).bind fun q2 =>
    some ((1 : Int32), q2.2)
  else
  some ((0 : Int32), w)
  else none
theorem iX3_isChanged {a0 : Nat} {i1 : Int32} {i2 : Int32} {i3 : Int32} {w : XW} {R9 : (Int32 × XW)} (h : fX3_isChanged a0 i1 i2 i3 w = some R9) : xis w a0 3 = true := by
  unfold fX3_isChanged at h
  rcases xite h with ⟨hc, h⟩ | ⟨hc, h⟩
  · exact hc
  · exact absurd h (by simp)
theorem np_X3_isChanged : (parseMethodDescriptor yX3_isChanged.desc).map (fun d => d.parameters.length) = some 3 := by decide +kernel
theorem hy_X3_isChanged : yX3_isChanged.cls ≠ "java/lang/invoke/MethodHandle" ∧ yX3_isChanged.cls ≠ "java/lang/invoke/VarHandle" := ⟨by decide +kernel, by decide +kernel⟩
set_option maxRecDepth 20000 in
theorem eX3_isChanged {cx : CX} {a0 : Nat} {i1 : Int32} {i2 : Int32} {i3 : Int32} {w : XW} {R9 : (Int32 × XW)} (h : fX3_isChanged a0 i1 i2 i3 w = some R9) : Ct yX3_isChanged cX3_isChanged 4 (some .boolean) 3 66 cx [.ref a0, .int i1, .int i2, .int i3] w (some (.int R9.1)) R9.2 := by
  refine Ct_of (by decide +kernel) (Nat.le_of_ble_eq_true rfl) (fun K B hR => ?_)
  rw [fX3_isChanged] at h
  show Wx K cx 4 w.length 0 [(0, .ref a0), (1, .int i1), (2, .int i2), (3, .int i3)] [] w
  rcases xite h with ⟨hc, h⟩ | ⟨hc, h⟩
  · skip
    refine x_iload_n (pc := 0) B 1 dX3_isChanged_0 rfl rfl ?_
    rcases xite h with ⟨hc, h⟩ | ⟨hc, h⟩
    · refine x_if_eq_t (tgt := 6) (pc := 1) B dX3_isChanged_1 (by decide) hc ?_
      refine x_aload_n (pc := 6) B 0 dX3_isChanged_6 rfl rfl ?_
      obtain ⟨v1, hv, h⟩ := xbind h
      refine x_getR (k0 := 0) (pc := 7) B dX3_isChanged_7 rfl xi_3 (by decide) ⟨rfl, rfl, rfl⟩ xt_117 hv ?_
      refine x_iload_n (pc := 10) B 2 dX3_isChanged_10 rfl rfl ?_
      refine x_iload_n (pc := 11) B 3 dX3_isChanged_11 rfl rfl ?_
      obtain ⟨q2, hq, h⟩ := xbind h
      refine x_callV1 (st := []) (pc := 12) B dX3_isChanged_12 (eX0_change hq) xt_171 xt_54 np_X0_change hy_X0_change (Nat.le_of_ble_eq_true rfl) (Nat.le_of_ble_eq_true rfl) (Nat.le_of_ble_eq_true rfl) xt_169 xt_170 xt_168 rfl (iX0_change hq) rfl ?_
      refine x_pop (pc := 15) B dX3_isChanged_15 rfl ?_
      refine x_iconst (pc := 16) B dX3_isChanged_16 xk_iconst_1 ?_
      exact x_iret (pc := 17) B hR dX3_isChanged_17 xz1 h
    · refine x_if_eq_f (pc := 1) B 6 dX3_isChanged_1 (by decide) hc ?_
      refine x_iconst (pc := 4) B dX3_isChanged_4 xk_iconst_0 ?_
      exact x_iret (pc := 5) B hR dX3_isChanged_5 xz0 h
  · exact absurd h (by simp)
def fX3_isDone (a0 : Nat) (i1 : Int32) (w : XW) : Option (Int32 × XW) := if xis w a0 3 = true then
  (xgR w a0 3 2).bind fun v1 =>
  (fX1_digitAt v1 (i1 + (1 : Int32)) w).bind fun q2 =>
  (xgR q2.2 a0 3 2).bind fun v3 =>
  (fX1_digitAt v3 (i1 + (2 : Int32)) q2.2).bind fun q4 =>
  (xgR q4.2 a0 3 2).bind fun v5 =>
  (fX1_digitAt v5 (i1 + (3 : Int32)) q4.2).bind fun q6 =>
  (xgR q6.2 a0 3 2).bind fun v7 =>
  (fX1_lastNumberOf v7 i1 q6.2).bind fun q8 =>
  (xgR q8.2 a0 3 2).bind fun v9 =>
  (fX1_signAt v9 i1 q8.2).bind fun q10 =>
  if q10.1 = (97 : Int32) then
    (fX0_answerPlace q2.1 q10.2).bind fun q11 =>
    (fX3_isChanged a0 (0 : Int32) q11.1 q8.1 q11.2).bind fun q12 =>
    if vp_nar .boolean q12.1 = q12.1 then some (q12.1, q12.2) else none
  else
  if q10.1 = (111 : Int32) then
    (fX3_beliefError a0 q2.1 q4.1 q8.1 q10.2).bind fun q13 =>
    (fX0_toldPlace q2.1 q4.1 q13.2).bind fun q14 =>
    (fX3_isChanged a0 q13.1 q14.1 q8.1 q14.2).bind fun q15 =>
    if vp_nar .boolean q15.1 = q15.1 then some (q15.1, q15.2) else none
  else
  if q10.1 = (115 : Int32) then
    (fX0_messagePlace q2.1 q10.2).bind fun q16 =>
    (fX3_isChanged a0 (0 : Int32) q16.1 q8.1 q16.2).bind fun q17 =>
    if vp_nar .boolean q17.1 = q17.1 then some (q17.1, q17.2) else none
  else
  if q10.1 = (117 : Int32) then
    (fX0_payPlace (0 : Int32) q2.1 q4.1 q6.1 q10.2).bind fun q18 =>
    (fX3_isChanged a0 (0 : Int32) q18.1 q8.1 q18.2).bind fun q19 =>
    if vp_nar .boolean q19.1 = q19.1 then some (q19.1, q19.2) else none
  else
  if q10.1 = (118 : Int32) then
    (fX0_payPlace (1 : Int32) q2.1 q4.1 q6.1 q10.2).bind fun q20 =>
    (fX3_isChanged a0 (0 : Int32) q20.1 q8.1 q20.2).bind fun q21 =>
    if vp_nar .boolean q21.1 = q21.1 then some (q21.1, q21.2) else none
  else
  if q10.1 = (119 : Int32) then
    (fX3_weightError a0 q2.1 q8.1 q10.2).bind fun q22 =>
    (fX0_weightPlace q2.1 q22.2).bind fun q23 =>
    (fX3_isChanged a0 q22.1 q23.1 q8.1 q23.2).bind fun q24 =>
    if vp_nar .boolean q24.1 = q24.1 then some (q24.1, q24.2) else none
  else
  some ((0 : Int32), q10.2)
  else none
theorem iX3_isDone {a0 : Nat} {i1 : Int32} {w : XW} {R9 : (Int32 × XW)} (h : fX3_isDone a0 i1 w = some R9) : xis w a0 3 = true := by
  unfold fX3_isDone at h
  rcases xite h with ⟨hc, h⟩ | ⟨hc, h⟩
  · exact hc
  · exact absurd h (by simp)
theorem np_X3_isDone : (parseMethodDescriptor yX3_isDone.desc).map (fun d => d.parameters.length) = some 1 := by decide +kernel
theorem hy_X3_isDone : yX3_isDone.cls ≠ "java/lang/invoke/MethodHandle" ∧ yX3_isDone.cls ≠ "java/lang/invoke/VarHandle" := ⟨by decide +kernel, by decide +kernel⟩
set_option maxRecDepth 20000 in
theorem eX3_isDone {cx : CX} {a0 : Nat} {i1 : Int32} {w : XW} {R9 : (Int32 × XW)} (h : fX3_isDone a0 i1 w = some R9) : Ct yX3_isDone cX3_isDone 6 (some .boolean) 4 89 cx [.ref a0, .int i1] w (some (.int R9.1)) R9.2 := by
  refine Ct_of (by decide +kernel) (Nat.le_of_ble_eq_true rfl) (fun K B hR => ?_)
  rw [fX3_isDone] at h
  show Wx K cx 6 w.length 0 [(0, .ref a0), (1, .int i1)] [] w
  rcases xite h with ⟨hc, h⟩ | ⟨hc, h⟩
  · skip
    refine x_aload_n (pc := 0) B 0 dX3_isDone_0 rfl rfl ?_
    obtain ⟨v1, hv, h⟩ := xbind h
    refine x_getR (k0 := 2) (pc := 1) B dX3_isDone_1 rfl xi_3 (by decide) ⟨rfl, rfl, rfl⟩ xt_119 hv ?_
    refine x_iload_n (pc := 4) B 1 dX3_isDone_4 rfl rfl ?_
    refine x_iconst (pc := 5) B dX3_isDone_5 xk_iconst_1 ?_
    refine x_iadd (pc := 6) B dX3_isDone_6 ?_
    obtain ⟨q2, hq, h⟩ := xbind h
    refine x_callV1 (st := []) (pc := 7) B dX3_isDone_7 (eX1_digitAt hq) xt_571 xt_57 np_X1_digitAt hy_X1_digitAt (Nat.le_of_ble_eq_true rfl) (Nat.le_of_ble_eq_true rfl) (Nat.le_of_ble_eq_true rfl) xt_569 xt_570 xt_568 rfl (iX1_digitAt hq) rfl ?_
    refine x_istore_n (L1 := [(2, .int q2.1), (0, .ref a0), (1, .int i1)]) (pc := 10) B dX3_isDone_10 rfl (by decide) rfl ?_
    refine x_aload_n (pc := 11) B 1 dX3_isDone_11 rfl rfl ?_
    obtain ⟨v3, hv, h⟩ := xbind h
    refine x_getR (k0 := 2) (pc := 12) B dX3_isDone_12 rfl xi_3 (by decide) ⟨rfl, rfl, rfl⟩ xt_119 hv ?_
    refine x_iload_n (pc := 15) B 2 dX3_isDone_15 rfl rfl ?_
    refine x_iconst (pc := 16) B dX3_isDone_16 xk_iconst_2 ?_
    refine x_iadd (pc := 17) B dX3_isDone_17 ?_
    obtain ⟨q4, hq, h⟩ := xbind h
    refine x_callV1 (st := []) (pc := 18) B dX3_isDone_18 (eX1_digitAt hq) xt_571 xt_57 np_X1_digitAt hy_X1_digitAt (Nat.le_of_ble_eq_true rfl) (Nat.le_of_ble_eq_true rfl) (Nat.le_of_ble_eq_true rfl) xt_569 xt_570 xt_568 rfl (iX1_digitAt hq) rfl ?_
    refine x_istore_n (L1 := [(3, .int q4.1), (2, .int q2.1), (0, .ref a0), (1, .int i1)]) (pc := 21) B dX3_isDone_21 rfl (by decide) rfl ?_
    refine x_aload_n (pc := 22) B 2 dX3_isDone_22 rfl rfl ?_
    obtain ⟨v5, hv, h⟩ := xbind h
    refine x_getR (k0 := 2) (pc := 23) B dX3_isDone_23 rfl xi_3 (by decide) ⟨rfl, rfl, rfl⟩ xt_119 hv ?_
    refine x_iload_n (pc := 26) B 3 dX3_isDone_26 rfl rfl ?_
    refine x_iconst (pc := 27) B dX3_isDone_27 xk_iconst_3 ?_
    refine x_iadd (pc := 28) B dX3_isDone_28 ?_
    obtain ⟨q6, hq, h⟩ := xbind h
    refine x_callV1 (st := []) (pc := 29) B dX3_isDone_29 (eX1_digitAt hq) xt_571 xt_57 np_X1_digitAt hy_X1_digitAt (Nat.le_of_ble_eq_true rfl) (Nat.le_of_ble_eq_true rfl) (Nat.le_of_ble_eq_true rfl) xt_569 xt_570 xt_568 rfl (iX1_digitAt hq) rfl ?_
    refine x_istore (L1 := [(4, .int q6.1), (3, .int q4.1), (2, .int q2.1), (0, .ref a0), (1, .int i1)]) (pc := 32) B dX3_isDone_32 (by decide) rfl ?_
    refine x_aload_n (pc := 34) B 3 dX3_isDone_34 rfl rfl ?_
    obtain ⟨v7, hv, h⟩ := xbind h
    refine x_getR (k0 := 2) (pc := 35) B dX3_isDone_35 rfl xi_3 (by decide) ⟨rfl, rfl, rfl⟩ xt_119 hv ?_
    refine x_iload_n (pc := 38) B 4 dX3_isDone_38 rfl rfl ?_
    obtain ⟨q8, hq, h⟩ := xbind h
    refine x_callV1 (st := []) (pc := 39) B dX3_isDone_39 (eX1_lastNumberOf hq) xt_575 xt_57 np_X1_lastNumberOf hy_X1_lastNumberOf (Nat.le_of_ble_eq_true rfl) (Nat.le_of_ble_eq_true rfl) (Nat.le_of_ble_eq_true rfl) xt_573 xt_574 xt_572 rfl (iX1_lastNumberOf hq) rfl ?_
    refine x_istore (L1 := [(5, .int q8.1), (4, .int q6.1), (3, .int q4.1), (2, .int q2.1), (0, .ref a0), (1, .int i1)]) (pc := 42) B dX3_isDone_42 (by decide) rfl ?_
    refine x_aload_n (pc := 44) B 4 dX3_isDone_44 rfl rfl ?_
    obtain ⟨v9, hv, h⟩ := xbind h
    refine x_getR (k0 := 2) (pc := 45) B dX3_isDone_45 rfl xi_3 (by decide) ⟨rfl, rfl, rfl⟩ xt_119 hv ?_
    refine x_iload_n (pc := 48) B 5 dX3_isDone_48 rfl rfl ?_
    obtain ⟨q10, hq, h⟩ := xbind h
    refine x_callV1 (st := []) (pc := 49) B dX3_isDone_49 (eX1_signAt hq) xt_493 xt_57 np_X1_signAt hy_X1_signAt (Nat.le_of_ble_eq_true rfl) (Nat.le_of_ble_eq_true rfl) (Nat.le_of_ble_eq_true rfl) xt_491 xt_492 xt_577 rfl (iX1_signAt hq) rfl ?_
    rcases xite h with ⟨hc0, h⟩ | ⟨hc0, h⟩
    · refine x_look (tgt := 142) (off := 90) (pc := 52) B dX3_isDone_52 (by decide +kernel) (by rw [hc0]; decide +kernel) (by decide) ?_
      refine x_aload_n (pc := 142) B 4 dX3_isDone_142 rfl rfl ?_
      refine x_iconst (pc := 143) B dX3_isDone_143 xk_iconst_0 ?_
      refine x_iload_n (pc := 144) B 3 dX3_isDone_144 rfl rfl ?_
      obtain ⟨q11, hq, h⟩ := xbind h
      refine x_callS1 (st := [.int (0 : Int32), .ref a0]) (pc := 145) B dX3_isDone_145 (eX0_answerPlace hq) xt_216 xt_54 np_X0_answerPlace hy_X0_answerPlace (Nat.le_of_ble_eq_true rfl) (Nat.le_of_ble_eq_true rfl) (Nat.le_of_ble_eq_true rfl) xt_215 xt_214 rfl ?_
      refine x_iload (pc := 148) B 0 dX3_isDone_148 rfl ?_
      obtain ⟨q12, hq, h⟩ := xbind h
      refine x_callV1 (st := []) (pc := 150) B dX3_isDone_150 (eX3_isChanged hq) xt_581 xt_53 np_X3_isChanged hy_X3_isChanged (Nat.le_of_ble_eq_true rfl) (Nat.le_of_ble_eq_true rfl) (Nat.le_of_ble_eq_true rfl) xt_580 xt_13 xt_578 rfl (iX3_isChanged hq) rfl ?_
      rcases xite h with ⟨hc, h⟩ | ⟨hc, h⟩
      · exact x_iret (pc := 153) B hR dX3_isDone_153 (xnar (Or.inl rfl) hc) h
      · exact absurd h (by simp)
    · skip
      rcases xite h with ⟨hc1, h⟩ | ⟨hc1, h⟩
      · refine x_look (tgt := 186) (off := 134) (pc := 52) B dX3_isDone_52 (by decide +kernel) (by rw [hc1]; decide +kernel) (by decide) ?_
        refine x_aload_n (pc := 186) B 4 dX3_isDone_186 rfl rfl ?_
        refine x_aload_n (pc := 187) B 4 dX3_isDone_187 rfl rfl ?_
        refine x_iload_n (pc := 188) B 3 dX3_isDone_188 rfl rfl ?_
        refine x_iload_n (pc := 189) B 2 dX3_isDone_189 rfl rfl ?_
        refine x_iload (pc := 190) B 0 dX3_isDone_190 rfl ?_
        obtain ⟨q13, hq, h⟩ := xbind h
        refine x_callV1 (st := [.ref a0]) (pc := 192) B dX3_isDone_192 (eX3_beliefError hq) xt_194 xt_53 np_X3_beliefError hy_X3_beliefError (Nat.le_of_ble_eq_true rfl) (Nat.le_of_ble_eq_true rfl) (Nat.le_of_ble_eq_true rfl) xt_193 xt_3 xt_191 rfl (iX3_beliefError hq) rfl ?_
        refine x_iload_n (pc := 195) B 3 dX3_isDone_195 rfl rfl ?_
        refine x_iload_n (pc := 196) B 2 dX3_isDone_196 rfl rfl ?_
        obtain ⟨q14, hq, h⟩ := xbind h
        refine x_callS1 (st := [.int q13.1, .ref a0]) (pc := 197) B dX3_isDone_197 (eX0_toldPlace hq) xt_201 xt_54 np_X0_toldPlace hy_X0_toldPlace (Nat.le_of_ble_eq_true rfl) (Nat.le_of_ble_eq_true rfl) (Nat.le_of_ble_eq_true rfl) xt_200 xt_202 rfl ?_
        refine x_iload (pc := 200) B 0 dX3_isDone_200 rfl ?_
        obtain ⟨q15, hq, h⟩ := xbind h
        refine x_callV1 (st := []) (pc := 202) B dX3_isDone_202 (eX3_isChanged hq) xt_581 xt_53 np_X3_isChanged hy_X3_isChanged (Nat.le_of_ble_eq_true rfl) (Nat.le_of_ble_eq_true rfl) (Nat.le_of_ble_eq_true rfl) xt_580 xt_13 xt_578 rfl (iX3_isChanged hq) rfl ?_
        rcases xite h with ⟨hc, h⟩ | ⟨hc, h⟩
        · exact x_iret (pc := 205) B hR dX3_isDone_205 (xnar (Or.inl rfl) hc) h
        · exact absurd h (by simp)
      · skip
        rcases xite h with ⟨hc2, h⟩ | ⟨hc2, h⟩
        · refine x_look (tgt := 130) (off := 78) (pc := 52) B dX3_isDone_52 (by decide +kernel) (by rw [hc2]; decide +kernel) (by decide) ?_
          refine x_aload_n (pc := 130) B 4 dX3_isDone_130 rfl rfl ?_
          refine x_iconst (pc := 131) B dX3_isDone_131 xk_iconst_0 ?_
          refine x_iload_n (pc := 132) B 3 dX3_isDone_132 rfl rfl ?_
          obtain ⟨q16, hq, h⟩ := xbind h
          refine x_callS1 (st := [.int (0 : Int32), .ref a0]) (pc := 133) B dX3_isDone_133 (eX0_messagePlace hq) xt_209 xt_54 np_X0_messagePlace hy_X0_messagePlace (Nat.le_of_ble_eq_true rfl) (Nat.le_of_ble_eq_true rfl) (Nat.le_of_ble_eq_true rfl) xt_208 xt_207 rfl ?_
          refine x_iload (pc := 136) B 0 dX3_isDone_136 rfl ?_
          obtain ⟨q17, hq, h⟩ := xbind h
          refine x_callV1 (st := []) (pc := 138) B dX3_isDone_138 (eX3_isChanged hq) xt_581 xt_53 np_X3_isChanged hy_X3_isChanged (Nat.le_of_ble_eq_true rfl) (Nat.le_of_ble_eq_true rfl) (Nat.le_of_ble_eq_true rfl) xt_580 xt_13 xt_578 rfl (iX3_isChanged hq) rfl ?_
          rcases xite h with ⟨hc, h⟩ | ⟨hc, h⟩
          · exact x_iret (pc := 141) B hR dX3_isDone_141 (xnar (Or.inl rfl) hc) h
          · exact absurd h (by simp)
        · skip
          rcases xite h with ⟨hc3, h⟩ | ⟨hc3, h⟩
          · refine x_look (tgt := 154) (off := 102) (pc := 52) B dX3_isDone_52 (by decide +kernel) (by rw [hc3]; decide +kernel) (by decide) ?_
            refine x_aload_n (pc := 154) B 4 dX3_isDone_154 rfl rfl ?_
            refine x_iconst (pc := 155) B dX3_isDone_155 xk_iconst_0 ?_
            refine x_iconst (pc := 156) B dX3_isDone_156 xk_iconst_0 ?_
            refine x_iload_n (pc := 157) B 3 dX3_isDone_157 rfl rfl ?_
            refine x_iload_n (pc := 158) B 2 dX3_isDone_158 rfl rfl ?_
            refine x_iload (pc := 159) B 1 dX3_isDone_159 rfl ?_
            obtain ⟨q18, hq, h⟩ := xbind h
            refine x_callS1 (st := [.int (0 : Int32), .ref a0]) (pc := 161) B dX3_isDone_161 (eX0_payPlace hq) xt_186 xt_54 np_X0_payPlace hy_X0_payPlace (Nat.le_of_ble_eq_true rfl) (Nat.le_of_ble_eq_true rfl) (Nat.le_of_ble_eq_true rfl) xt_185 xt_184 rfl ?_
            refine x_iload (pc := 164) B 0 dX3_isDone_164 rfl ?_
            obtain ⟨q19, hq, h⟩ := xbind h
            refine x_callV1 (st := []) (pc := 166) B dX3_isDone_166 (eX3_isChanged hq) xt_581 xt_53 np_X3_isChanged hy_X3_isChanged (Nat.le_of_ble_eq_true rfl) (Nat.le_of_ble_eq_true rfl) (Nat.le_of_ble_eq_true rfl) xt_580 xt_13 xt_578 rfl (iX3_isChanged hq) rfl ?_
            rcases xite h with ⟨hc, h⟩ | ⟨hc, h⟩
            · exact x_iret (pc := 169) B hR dX3_isDone_169 (xnar (Or.inl rfl) hc) h
            · exact absurd h (by simp)
          · skip
            rcases xite h with ⟨hc4, h⟩ | ⟨hc4, h⟩
            · refine x_look (tgt := 170) (off := 118) (pc := 52) B dX3_isDone_52 (by decide +kernel) (by rw [hc4]; decide +kernel) (by decide) ?_
              refine x_aload_n (pc := 170) B 4 dX3_isDone_170 rfl rfl ?_
              refine x_iconst (pc := 171) B dX3_isDone_171 xk_iconst_0 ?_
              refine x_iconst (pc := 172) B dX3_isDone_172 xk_iconst_1 ?_
              refine x_iload_n (pc := 173) B 3 dX3_isDone_173 rfl rfl ?_
              refine x_iload_n (pc := 174) B 2 dX3_isDone_174 rfl rfl ?_
              refine x_iload (pc := 175) B 1 dX3_isDone_175 rfl ?_
              obtain ⟨q20, hq, h⟩ := xbind h
              refine x_callS1 (st := [.int (0 : Int32), .ref a0]) (pc := 177) B dX3_isDone_177 (eX0_payPlace hq) xt_186 xt_54 np_X0_payPlace hy_X0_payPlace (Nat.le_of_ble_eq_true rfl) (Nat.le_of_ble_eq_true rfl) (Nat.le_of_ble_eq_true rfl) xt_185 xt_184 rfl ?_
              refine x_iload (pc := 180) B 0 dX3_isDone_180 rfl ?_
              obtain ⟨q21, hq, h⟩ := xbind h
              refine x_callV1 (st := []) (pc := 182) B dX3_isDone_182 (eX3_isChanged hq) xt_581 xt_53 np_X3_isChanged hy_X3_isChanged (Nat.le_of_ble_eq_true rfl) (Nat.le_of_ble_eq_true rfl) (Nat.le_of_ble_eq_true rfl) xt_580 xt_13 xt_578 rfl (iX3_isChanged hq) rfl ?_
              rcases xite h with ⟨hc, h⟩ | ⟨hc, h⟩
              · exact x_iret (pc := 185) B hR dX3_isDone_185 (xnar (Or.inl rfl) hc) h
              · exact absurd h (by simp)
            · skip
              rcases xite h with ⟨hc5, h⟩ | ⟨hc5, h⟩
              · refine x_look (tgt := 112) (off := 60) (pc := 52) B dX3_isDone_52 (by decide +kernel) (by rw [hc5]; decide +kernel) (by decide) ?_
                refine x_aload_n (pc := 112) B 4 dX3_isDone_112 rfl rfl ?_
                refine x_aload_n (pc := 113) B 4 dX3_isDone_113 rfl rfl ?_
                refine x_iload_n (pc := 114) B 3 dX3_isDone_114 rfl rfl ?_
                refine x_iload (pc := 115) B 0 dX3_isDone_115 rfl ?_
                obtain ⟨q22, hq, h⟩ := xbind h
                refine x_callV1 (st := [.ref a0]) (pc := 117) B dX3_isDone_117 (eX3_weightError hq) xt_139 xt_53 np_X3_weightError hy_X3_weightError (Nat.le_of_ble_eq_true rfl) (Nat.le_of_ble_eq_true rfl) (Nat.le_of_ble_eq_true rfl) xt_138 xt_0 xt_136 rfl (iX3_weightError hq) rfl ?_
                refine x_iload_n (pc := 120) B 3 dX3_isDone_120 rfl rfl ?_
                obtain ⟨q23, hq, h⟩ := xbind h
                refine x_callS1 (st := [.int q22.1, .ref a0]) (pc := 121) B dX3_isDone_121 (eX0_weightPlace hq) xt_149 xt_54 np_X0_weightPlace hy_X0_weightPlace (Nat.le_of_ble_eq_true rfl) (Nat.le_of_ble_eq_true rfl) (Nat.le_of_ble_eq_true rfl) xt_148 xt_154 rfl ?_
                refine x_iload (pc := 124) B 0 dX3_isDone_124 rfl ?_
                obtain ⟨q24, hq, h⟩ := xbind h
                refine x_callV1 (st := []) (pc := 126) B dX3_isDone_126 (eX3_isChanged hq) xt_581 xt_53 np_X3_isChanged hy_X3_isChanged (Nat.le_of_ble_eq_true rfl) (Nat.le_of_ble_eq_true rfl) (Nat.le_of_ble_eq_true rfl) xt_580 xt_13 xt_578 rfl (iX3_isChanged hq) rfl ?_
                rcases xite h with ⟨hc, h⟩ | ⟨hc, h⟩
                · exact x_iret (pc := 129) B hR dX3_isDone_129 (xnar (Or.inl rfl) hc) h
                · exact absurd h (by simp)
              · skip
                refine x_look (tgt := 206) (off := 154) (pc := 52) B dX3_isDone_52 (by decide +kernel) ?_ (by decide) ?_
                · show Op.lookupswitch.offset [(97, 90), (111, 134), (115, 78), (117, 102), (118, 118), (119, 60)] 154 _ = _
                  rw [lv_osw hc0 (by decide +kernel), lv_osw hc1 (by decide +kernel), lv_osw hc2 (by decide +kernel), lv_osw hc3 (by decide +kernel), lv_osw hc4 (by decide +kernel), lv_osw hc5 (by decide +kernel)]
                  rfl
                refine x_iconst (pc := 206) B dX3_isDone_206 xk_iconst_0 ?_
                exact x_iret (pc := 207) B hR dX3_isDone_207 xz0 h
  · exact absurd h (by simp)
def fX3_carryOut_23 : Nat → Nat → Int32 → Int32 → XW → Option (Int32 × XW)
  | 0, _, _, _, _ => none
  | g + 1, a0, i1, i2, w =>
    if (80 : Int32) ≤ i1 then
      (xgR w a0 3 2).bind fun v4 =>
      (fX1_clear v4 w).bind fun q5 =>
      some (i1, q5)
    else
    (xgR w a0 3 2).bind fun v6 =>
    (fX1_length v6 w).bind fun q7 =>
    if q7.1 ≤ i2 then
      (xgR q7.2 a0 3 2).bind fun v8 =>
      (fX1_clear v8 q7.2).bind fun q9 =>
      some (i1, q9)
    else
    (fX3_isDone a0 i2 q7.2).bind fun q10 =>
    if q10.1 = (0 : Int32) then
      (xgR q10.2 a0 3 2).bind fun v11 =>
      (fX1_clear v11 q10.2).bind fun q12 =>
      some (i1, q12)
    else
    (xgR q10.2 a0 3 2).bind fun v13 =>
    (fX1_endOfOrder v13 i2 q10.2).bind fun q14 =>
    fX3_carryOut_23 g a0 (i1 + (1 : Int32)) (q14.1 + (1 : Int32)) q14.2
set_option maxRecDepth 20000 in
theorem pX3_carryOut_23 {K : KX} {cx : CX} {nn : Nat} {R9 : Int32 × XW} (B : XB K cx RX3 cX3_carryOut 3 nn 7 153) (hR : XR K cx nn (some .int) (some (.int R9.1)) R9.2) : ∀ (g : Nat) (a0 : Nat) (i1 : Int32) (i2 : Int32) (w : XW), fX3_carryOut_23 g a0 i1 i2 w = some R9 → Wx K cx 3 nn 23 [(0, .ref a0), (1, .int i1), (2, .int i2)] [] w := by
  intro g
  induction g with
  | zero =>
    intro a0 i1 i2 w h
    exact absurd (show (none : Option (Int32 × XW)) = some R9 from h) (by simp)
  | succ g ih =>
    intro a0 i1 i2 w h
    rw [fX3_carryOut_23] at h
    refine x_iload_n (pc := 23) B 1 dX3_carryOut_23 rfl rfl ?_
    refine x_bipush (pc := 24) B dX3_carryOut_24 xk_bipush_80 ?_
    rcases xite h with ⟨hc, h⟩ | ⟨hc, h⟩
    · refine x_icmp_ge_t (tgt := 65) (pc := 26) B dX3_carryOut_26 (by decide) hc ?_
      refine x_aload_n (pc := 65) B 0 dX3_carryOut_65 rfl rfl ?_
      obtain ⟨v4, hv, h⟩ := xbind h
      refine x_getR (k0 := 2) (pc := 66) B dX3_carryOut_66 rfl xi_3 (by decide) ⟨rfl, rfl, rfl⟩ xt_119 hv ?_
      obtain ⟨q5, hq, h⟩ := xbind h
      refine x_callV0 (st := []) (pc := 69) B dX3_carryOut_69 (eX1_clear hq) xt_473 xt_57 np_X1_clear hy_X1_clear (Nat.le_of_ble_eq_true rfl) (Nat.le_of_ble_eq_true rfl) (Nat.le_of_ble_eq_true rfl) xt_471 xt_472 xt_470 rfl (iX1_clear hq) rfl ?_
      refine x_iload_n (pc := 72) B 1 dX3_carryOut_72 rfl rfl ?_
      exact x_iret (pc := 73) B hR dX3_carryOut_73 (xzI _) h
    · refine x_icmp_ge_f (pc := 26) B 65 dX3_carryOut_26 (by decide) hc ?_
      refine x_iload_n (pc := 29) B 2 dX3_carryOut_29 rfl rfl ?_
      refine x_aload_n (pc := 30) B 0 dX3_carryOut_30 rfl rfl ?_
      obtain ⟨v6, hv, h⟩ := xbind h
      refine x_getR (k0 := 2) (pc := 31) B dX3_carryOut_31 rfl xi_3 (by decide) ⟨rfl, rfl, rfl⟩ xt_119 hv ?_
      obtain ⟨q7, hq, h⟩ := xbind h
      refine x_callV1 (st := [.int i2]) (pc := 34) B dX3_carryOut_34 (eX1_length hq) xt_417 xt_57 np_X1_length hy_X1_length (Nat.le_of_ble_eq_true rfl) (Nat.le_of_ble_eq_true rfl) (Nat.le_of_ble_eq_true rfl) xt_415 xt_416 xt_414 rfl (iX1_length hq) rfl ?_
      rcases xite h with ⟨hc, h⟩ | ⟨hc, h⟩
      · refine x_icmp_ge_t (tgt := 65) (pc := 37) B dX3_carryOut_37 (by decide) hc ?_
        refine x_aload_n (pc := 65) B 0 dX3_carryOut_65 rfl rfl ?_
        obtain ⟨v8, hv, h⟩ := xbind h
        refine x_getR (k0 := 2) (pc := 66) B dX3_carryOut_66 rfl xi_3 (by decide) ⟨rfl, rfl, rfl⟩ xt_119 hv ?_
        obtain ⟨q9, hq, h⟩ := xbind h
        refine x_callV0 (st := []) (pc := 69) B dX3_carryOut_69 (eX1_clear hq) xt_473 xt_57 np_X1_clear hy_X1_clear (Nat.le_of_ble_eq_true rfl) (Nat.le_of_ble_eq_true rfl) (Nat.le_of_ble_eq_true rfl) xt_471 xt_472 xt_470 rfl (iX1_clear hq) rfl ?_
        refine x_iload_n (pc := 72) B 1 dX3_carryOut_72 rfl rfl ?_
        exact x_iret (pc := 73) B hR dX3_carryOut_73 (xzI _) h
      · refine x_icmp_ge_f (pc := 37) B 65 dX3_carryOut_37 (by decide) hc ?_
        refine x_aload_n (pc := 40) B 0 dX3_carryOut_40 rfl rfl ?_
        refine x_iload_n (pc := 41) B 2 dX3_carryOut_41 rfl rfl ?_
        obtain ⟨q10, hq, h⟩ := xbind h
        refine x_callV1 (st := []) (pc := 42) B dX3_carryOut_42 (eX3_isDone hq) xt_567 xt_53 np_X3_isDone hy_X3_isDone (Nat.le_of_ble_eq_true rfl) (Nat.le_of_ble_eq_true rfl) (Nat.le_of_ble_eq_true rfl) xt_566 xt_12 xt_564 rfl (iX3_isDone hq) rfl ?_
        rcases xite h with ⟨hc, h⟩ | ⟨hc, h⟩
        · refine x_if_eq_t (tgt := 65) (pc := 45) B dX3_carryOut_45 (by decide) hc ?_
          refine x_aload_n (pc := 65) B 0 dX3_carryOut_65 rfl rfl ?_
          obtain ⟨v11, hv, h⟩ := xbind h
          refine x_getR (k0 := 2) (pc := 66) B dX3_carryOut_66 rfl xi_3 (by decide) ⟨rfl, rfl, rfl⟩ xt_119 hv ?_
          obtain ⟨q12, hq, h⟩ := xbind h
          refine x_callV0 (st := []) (pc := 69) B dX3_carryOut_69 (eX1_clear hq) xt_473 xt_57 np_X1_clear hy_X1_clear (Nat.le_of_ble_eq_true rfl) (Nat.le_of_ble_eq_true rfl) (Nat.le_of_ble_eq_true rfl) xt_471 xt_472 xt_470 rfl (iX1_clear hq) rfl ?_
          refine x_iload_n (pc := 72) B 1 dX3_carryOut_72 rfl rfl ?_
          exact x_iret (pc := 73) B hR dX3_carryOut_73 (xzI _) h
        · refine x_if_eq_f (pc := 45) B 65 dX3_carryOut_45 (by decide) hc ?_
          refine x_iinc (L1 := [(1, .int (i1 + (1 : Int32))), (0, .ref a0), (2, .int i2)]) (pc := 48) B 1 dX3_carryOut_48 rfl (congrArg _ xk_iconst_1) (by decide) rfl ?_
          refine x_aload_n (pc := 51) B 1 dX3_carryOut_51 rfl rfl ?_
          obtain ⟨v13, hv, h⟩ := xbind h
          refine x_getR (k0 := 2) (pc := 52) B dX3_carryOut_52 rfl xi_3 (by decide) ⟨rfl, rfl, rfl⟩ xt_119 hv ?_
          refine x_iload_n (pc := 55) B 2 dX3_carryOut_55 rfl rfl ?_
          obtain ⟨q14, hq, h⟩ := xbind h
          refine x_callV1 (st := []) (pc := 56) B dX3_carryOut_56 (eX1_endOfOrder hq) xt_558 xt_57 np_X1_endOfOrder hy_X1_endOfOrder (Nat.le_of_ble_eq_true rfl) (Nat.le_of_ble_eq_true rfl) (Nat.le_of_ble_eq_true rfl) xt_556 xt_557 xt_582 rfl (iX1_endOfOrder hq) rfl ?_
          refine x_iconst (pc := 59) B dX3_carryOut_59 xk_iconst_1 ?_
          refine x_iadd (pc := 60) B dX3_carryOut_60 ?_
          refine x_istore_n (L1 := [(2, .int (q14.1 + (1 : Int32))), (1, .int (i1 + (1 : Int32))), (0, .ref a0)]) (pc := 61) B dX3_carryOut_61 rfl (by decide) rfl ?_
          refine x_goto (tgt := 23) (pc := 62) B dX3_carryOut_62 (by decide) ?_
          refine x_sub (L1 := [(0, .ref a0), (1, .int (i1 + (1 : Int32))), (2, .int (q14.1 + (1 : Int32)))]) [2, 1, 0] rfl ?_
          exact ih a0 (i1 + (1 : Int32)) (q14.1 + (1 : Int32)) q14.2 h
def fX3_carryOut (a0 : Nat) (w : XW) : Option (Int32 × XW) := if xis w a0 3 = true then
  (xgR w a0 3 2).bind fun v1 =>
  (fX1_faultPlace v1 w).bind fun q2 =>
  if q2.1 = (-6 : Int32) then
    (fX3_record a0 q2.2).bind fun q3 =>
    fX3_carryOut_23 1000 a0 (0 : Int32) (0 : Int32) q3
  else
  some ((-3 : Int32), q2.2)
  else none
theorem iX3_carryOut {a0 : Nat} {w : XW} {R9 : (Int32 × XW)} (h : fX3_carryOut a0 w = some R9) : xis w a0 3 = true := by
  unfold fX3_carryOut at h
  rcases xite h with ⟨hc, h⟩ | ⟨hc, h⟩
  · exact hc
  · exact absurd h (by simp)
theorem np_X3_carryOut : (parseMethodDescriptor yX3_carryOut.desc).map (fun d => d.parameters.length) = some 0 := by decide +kernel
theorem hy_X3_carryOut : yX3_carryOut.cls ≠ "java/lang/invoke/MethodHandle" ∧ yX3_carryOut.cls ≠ "java/lang/invoke/VarHandle" := ⟨by decide +kernel, by decide +kernel⟩
set_option maxRecDepth 20000 in
theorem eX3_carryOut {cx : CX} {a0 : Nat} {w : XW} {R9 : (Int32 × XW)} (h : fX3_carryOut a0 w = some R9) : Ct yX3_carryOut cX3_carryOut 3 (some .int) 7 153 cx [.ref a0] w (some (.int R9.1)) R9.2 := by
  refine Ct_of (by decide +kernel) (Nat.le_of_ble_eq_true rfl) (fun K B hR => ?_)
  rw [fX3_carryOut] at h
  show Wx K cx 3 w.length 0 [(0, .ref a0)] [] w
  rcases xite h with ⟨hc, h⟩ | ⟨hc, h⟩
  · skip
    refine x_aload_n (pc := 0) B 0 dX3_carryOut_0 rfl rfl ?_
    obtain ⟨v1, hv, h⟩ := xbind h
    refine x_getR (k0 := 2) (pc := 1) B dX3_carryOut_1 rfl xi_3 (by decide) ⟨rfl, rfl, rfl⟩ xt_119 hv ?_
    obtain ⟨q2, hq, h⟩ := xbind h
    refine x_callV1 (st := []) (pc := 4) B dX3_carryOut_4 (eX1_faultPlace hq) xt_481 xt_57 np_X1_faultPlace hy_X1_faultPlace (Nat.le_of_ble_eq_true rfl) (Nat.le_of_ble_eq_true rfl) (Nat.le_of_ble_eq_true rfl) xt_479 xt_480 xt_478 rfl (iX1_faultPlace hq) rfl ?_
    refine x_bipush (pc := 7) B dX3_carryOut_7 xk_bipush_m6 ?_
    rcases xite h with ⟨hc, h⟩ | ⟨hc, h⟩
    · refine x_icmp_eq_t (tgt := 15) (pc := 9) B dX3_carryOut_9 (by decide) hc ?_
      refine x_aload_n (pc := 15) B 0 dX3_carryOut_15 rfl rfl ?_
      obtain ⟨q3, hq, h⟩ := xbind h
      refine x_callV0 (st := []) (pc := 16) B dX3_carryOut_16 (eX3_record hq) xt_159 xt_53 np_X3_record hy_X3_record (Nat.le_of_ble_eq_true rfl) (Nat.le_of_ble_eq_true rfl) (Nat.le_of_ble_eq_true rfl) xt_158 xt_1 xt_156 rfl (iX3_record hq) rfl ?_
      refine x_iconst (pc := 19) B dX3_carryOut_19 xk_iconst_0 ?_
      refine x_istore_n (L1 := [(1, .int (0 : Int32)), (0, .ref a0)]) (pc := 20) B dX3_carryOut_20 rfl (by decide) rfl ?_
      refine x_iconst (pc := 21) B dX3_carryOut_21 xk_iconst_0 ?_
      refine x_istore_n (L1 := [(2, .int (0 : Int32)), (1, .int (0 : Int32)), (0, .ref a0)]) (pc := 22) B dX3_carryOut_22 rfl (by decide) rfl ?_
      refine x_sub (L1 := [(0, .ref a0), (1, .int (0 : Int32)), (2, .int (0 : Int32))]) [2, 1, 0] rfl ?_
      exact pX3_carryOut_23 B hR 1000 a0 (0 : Int32) (0 : Int32) q3 h
    · refine x_icmp_eq_f (pc := 9) B 15 dX3_carryOut_9 (by decide) hc ?_
      refine x_bipush (pc := 12) B dX3_carryOut_12 xk_bipush_m3 ?_
      exact x_iret (pc := 14) B hR dX3_carryOut_14 (xzI _) h
  · exact absurd h (by simp)
def fX3_undo (a0 : Nat) (w : XW) : Option (Int32 × XW) := if xis w a0 3 = true then
  (xgI w a0 3 6).bind fun v1 =>
  if (0 : Int32) < v1 then
    (xgI w a0 3 6).bind fun v2 =>
    (xpI w a0 3 6 (v2 - (1 : Int32))).bind fun w3 =>
    (xgR w3 a0 3 0).bind fun v4 =>
    (xgR w3 a0 3 3).bind fun v5 =>
    (xgI w3 a0 3 6).bind fun v6 =>
    (fX0_readFrom v4 v5 (v6 * (72 : Int32)) w3).bind fun q7 =>
    (xgI q7 a0 3 6).bind fun v8 =>
    some (v8, q7)
  else
  some ((-5 : Int32), w)
  else none
theorem iX3_undo {a0 : Nat} {w : XW} {R9 : (Int32 × XW)} (h : fX3_undo a0 w = some R9) : xis w a0 3 = true := by
  unfold fX3_undo at h
  rcases xite h with ⟨hc, h⟩ | ⟨hc, h⟩
  · exact hc
  · exact absurd h (by simp)
theorem np_X3_undo : (parseMethodDescriptor yX3_undo.desc).map (fun d => d.parameters.length) = some 0 := by decide +kernel
theorem hy_X3_undo : yX3_undo.cls ≠ "java/lang/invoke/MethodHandle" ∧ yX3_undo.cls ≠ "java/lang/invoke/VarHandle" := ⟨by decide +kernel, by decide +kernel⟩
set_option maxRecDepth 20000 in
theorem eX3_undo {cx : CX} {a0 : Nat} {w : XW} {R9 : (Int32 × XW)} (h : fX3_undo a0 w = some R9) : Ct yX3_undo cX3_undo 1 (some .int) 3 65 cx [.ref a0] w (some (.int R9.1)) R9.2 := by
  refine Ct_of (by decide +kernel) (Nat.le_of_ble_eq_true rfl) (fun K B hR => ?_)
  rw [fX3_undo] at h
  show Wx K cx 1 w.length 0 [(0, .ref a0)] [] w
  rcases xite h with ⟨hc, h⟩ | ⟨hc, h⟩
  · skip
    refine x_aload_n (pc := 0) B 0 dX3_undo_0 rfl rfl ?_
    obtain ⟨v1, hv, h⟩ := xbind h
    refine x_getI (k0 := 6) (pc := 1) B dX3_undo_1 rfl xi_3 (by decide) ⟨rfl, rfl, rfl⟩ xt_123 hv ?_
    rcases xite h with ⟨hc, h⟩ | ⟨hc, h⟩
    · refine x_if_gt_t (tgt := 10) (pc := 4) B dX3_undo_4 (by decide) hc ?_
      refine x_aload_n (pc := 10) B 0 dX3_undo_10 rfl rfl ?_
      refine x_dup (pc := 11) B dX3_undo_11 rfl ?_
      obtain ⟨v2, hv, h⟩ := xbind h
      refine x_getI (k0 := 6) (pc := 12) B dX3_undo_12 rfl xi_3 (by decide) ⟨rfl, rfl, rfl⟩ xt_123 hv ?_
      refine x_iconst (pc := 15) B dX3_undo_15 xk_iconst_1 ?_
      refine x_isub (pc := 16) B dX3_undo_16 ?_
      obtain ⟨w3, hv, h⟩ := xbind h
      refine x_putI (k0 := 6) (pc := 17) B dX3_undo_17 rfl xi_3 (by decide) ⟨rfl, rfl, rfl⟩ xt_123 tyX3_ok nmX3 rfl xpdI hv ?_
      refine x_aload_n (pc := 20) B 0 dX3_undo_20 rfl rfl ?_
      obtain ⟨v4, hv, h⟩ := xbind h
      refine x_getR (k0 := 0) (pc := 21) B dX3_undo_21 rfl xi_3 (by decide) ⟨rfl, rfl, rfl⟩ xt_117 hv ?_
      refine x_aload_n (pc := 24) B 0 dX3_undo_24 rfl rfl ?_
      obtain ⟨v5, hv, h⟩ := xbind h
      refine x_getR (k0 := 3) (pc := 25) B dX3_undo_25 rfl xi_3 (by decide) ⟨rfl, rfl, rfl⟩ xt_120 hv ?_
      refine x_aload_n (pc := 28) B 0 dX3_undo_28 rfl rfl ?_
      obtain ⟨v6, hv, h⟩ := xbind h
      refine x_getI (k0 := 6) (pc := 29) B dX3_undo_29 rfl xi_3 (by decide) ⟨rfl, rfl, rfl⟩ xt_123 hv ?_
      refine x_bipush (pc := 32) B dX3_undo_32 xk_bipush_72 ?_
      refine x_imul (pc := 34) B dX3_undo_34 ?_
      obtain ⟨q7, hq, h⟩ := xbind h
      refine x_callV0 (st := []) (pc := 35) B dX3_undo_35 (eX0_readFrom hq) xt_240 xt_54 np_X0_readFrom hy_X0_readFrom (Nat.le_of_ble_eq_true rfl) (Nat.le_of_ble_eq_true rfl) (Nat.le_of_ble_eq_true rfl) xt_238 xt_239 xt_587 rfl (iX0_readFrom hq) rfl ?_
      refine x_aload_n (pc := 38) B 0 dX3_undo_38 rfl rfl ?_
      obtain ⟨v8, hv, h⟩ := xbind h
      refine x_getI (k0 := 6) (pc := 39) B dX3_undo_39 rfl xi_3 (by decide) ⟨rfl, rfl, rfl⟩ xt_123 hv ?_
      exact x_iret (pc := 42) B hR dX3_undo_42 (xzI _) h
    · refine x_if_gt_f (pc := 4) B 10 dX3_undo_4 (by decide) hc ?_
      refine x_bipush (pc := 7) B dX3_undo_7 xk_bipush_m5 ?_
      exact x_iret (pc := 9) B hR dX3_undo_9 (xzI _) h
  · exact absurd h (by simp)
def fX3_save (a0 : Nat) (i1 : Int32) (w : XW) : Option (Int32 × XW) := if xis w a0 3 = true then
  (xgR w a0 3 5).bind fun v1 =>
  (xaL w v1).bind fun v2 =>
  (fX3_isWithin i1 v2 w).bind fun q3 =>
  if q3.1 = (0 : Int32) then
    some ((-2 : Int32), q3.2)
  else
  (xgR q3.2 a0 3 0).bind fun v4 =>
  (xgR q3.2 a0 3 4).bind fun v5 =>
  (fX0_writeTo v4 v5 (i1 * (72 : Int32)) q3.2).bind fun q6 =>
  (xgR q6 a0 3 5).bind fun v7 =>
  (xsZ q6 v7 i1 (1 : Int32)).bind fun w8 =>
  (xgR w8 a0 3 0).bind fun v9 =>
  (fX0_code v9 w8).bind fun q10 =>
  some (q10.1, q10.2)
  else none
theorem iX3_save {a0 : Nat} {i1 : Int32} {w : XW} {R9 : (Int32 × XW)} (h : fX3_save a0 i1 w = some R9) : xis w a0 3 = true := by
  unfold fX3_save at h
  rcases xite h with ⟨hc, h⟩ | ⟨hc, h⟩
  · exact hc
  · exact absurd h (by simp)
theorem np_X3_save : (parseMethodDescriptor yX3_save.desc).map (fun d => d.parameters.length) = some 1 := by decide +kernel
theorem hy_X3_save : yX3_save.cls ≠ "java/lang/invoke/MethodHandle" ∧ yX3_save.cls ≠ "java/lang/invoke/VarHandle" := ⟨by decide +kernel, by decide +kernel⟩
set_option maxRecDepth 20000 in
theorem eX3_save {cx : CX} {a0 : Nat} {i1 : Int32} {w : XW} {R9 : (Int32 × XW)} (h : fX3_save a0 i1 w = some R9) : Ct yX3_save cX3_save 2 (some .int) 2 62 cx [.ref a0, .int i1] w (some (.int R9.1)) R9.2 := by
  refine Ct_of (by decide +kernel) (Nat.le_of_ble_eq_true rfl) (fun K B hR => ?_)
  rw [fX3_save] at h
  show Wx K cx 2 w.length 0 [(0, .ref a0), (1, .int i1)] [] w
  rcases xite h with ⟨hc, h⟩ | ⟨hc, h⟩
  · skip
    refine x_iload_n (pc := 0) B 1 dX3_save_0 rfl rfl ?_
    refine x_aload_n (pc := 1) B 0 dX3_save_1 rfl rfl ?_
    obtain ⟨v1, hv, h⟩ := xbind h
    refine x_getR (k0 := 5) (pc := 2) B dX3_save_2 rfl xi_3 (by decide) ⟨rfl, rfl, rfl⟩ xt_122 hv ?_
    obtain ⟨v2, hv, h⟩ := xbind h
    refine x_alen (pc := 5) B dX3_save_5 hv ?_
    obtain ⟨q3, hq, h⟩ := xbind h
    refine x_callS1 (st := []) (pc := 6) B dX3_save_6 (eX3_isWithin hq) xt_142 xt_53 np_X3_isWithin hy_X3_isWithin (Nat.le_of_ble_eq_true rfl) (Nat.le_of_ble_eq_true rfl) (Nat.le_of_ble_eq_true rfl) xt_141 xt_140 rfl ?_
    rcases xite h with ⟨hc, h⟩ | ⟨hc, h⟩
    · refine x_if_ne_f (pc := 9) B 15 dX3_save_9 (by decide) hc ?_
      refine x_bipush (pc := 12) B dX3_save_12 xk_bipush_m2 ?_
      exact x_iret (pc := 14) B hR dX3_save_14 (xzI _) h
    · refine x_if_ne_t (tgt := 15) (pc := 9) B dX3_save_9 (by decide) hc ?_
      refine x_aload_n (pc := 15) B 0 dX3_save_15 rfl rfl ?_
      obtain ⟨v4, hv, h⟩ := xbind h
      refine x_getR (k0 := 0) (pc := 16) B dX3_save_16 rfl xi_3 (by decide) ⟨rfl, rfl, rfl⟩ xt_117 hv ?_
      refine x_aload_n (pc := 19) B 0 dX3_save_19 rfl rfl ?_
      obtain ⟨v5, hv, h⟩ := xbind h
      refine x_getR (k0 := 4) (pc := 20) B dX3_save_20 rfl xi_3 (by decide) ⟨rfl, rfl, rfl⟩ xt_121 hv ?_
      refine x_iload_n (pc := 23) B 1 dX3_save_23 rfl rfl ?_
      refine x_bipush (pc := 24) B dX3_save_24 xk_bipush_72 ?_
      refine x_imul (pc := 26) B dX3_save_26 ?_
      obtain ⟨q6, hq, h⟩ := xbind h
      refine x_callV0 (st := []) (pc := 27) B dX3_save_27 (eX0_writeTo hq) xt_166 xt_54 np_X0_writeTo hy_X0_writeTo (Nat.le_of_ble_eq_true rfl) (Nat.le_of_ble_eq_true rfl) (Nat.le_of_ble_eq_true rfl) xt_164 xt_165 xt_163 rfl (iX0_writeTo hq) rfl ?_
      refine x_aload_n (pc := 30) B 0 dX3_save_30 rfl rfl ?_
      obtain ⟨v7, hv, h⟩ := xbind h
      refine x_getR (k0 := 5) (pc := 31) B dX3_save_31 rfl xi_3 (by decide) ⟨rfl, rfl, rfl⟩ xt_122 hv ?_
      refine x_iload_n (pc := 34) B 1 dX3_save_34 rfl rfl ?_
      refine x_iconst (pc := 35) B dX3_save_35 xk_iconst_1 ?_
      obtain ⟨w8, hv, h⟩ := xbind h
      refine x_zast (pc := 36) B dX3_save_36 hv ?_
      refine x_aload_n (pc := 37) B 0 dX3_save_37 rfl rfl ?_
      obtain ⟨v9, hv, h⟩ := xbind h
      refine x_getR (k0 := 0) (pc := 38) B dX3_save_38 rfl xi_3 (by decide) ⟨rfl, rfl, rfl⟩ xt_117 hv ?_
      obtain ⟨q10, hq, h⟩ := xbind h
      refine x_callV1 (st := []) (pc := 41) B dX3_save_41 (eX0_code hq) xt_413 xt_54 np_X0_code hy_X0_code (Nat.le_of_ble_eq_true rfl) (Nat.le_of_ble_eq_true rfl) (Nat.le_of_ble_eq_true rfl) xt_411 xt_412 xt_410 rfl (iX0_code hq) rfl ?_
      exact x_iret (pc := 44) B hR dX3_save_44 (xzI _) h
  · exact absurd h (by simp)
def fX3_restore (a0 : Nat) (i1 : Int32) (w : XW) : Option (Int32 × XW) := if xis w a0 3 = true then
  (xgR w a0 3 5).bind fun v1 =>
  (xaL w v1).bind fun v2 =>
  (fX3_isWithin i1 v2 w).bind fun q3 =>
  if q3.1 = (0 : Int32) then
    some ((-2 : Int32), q3.2)
  else
  (xgR q3.2 a0 3 5).bind fun v4 =>
  (xaZ q3.2 v4 i1).bind fun v5 =>
  if v5 = (0 : Int32) then
    some ((-5 : Int32), q3.2)
  else
  (fX3_record a0 q3.2).bind fun q6 =>
  (xgR q6 a0 3 0).bind fun v7 =>
  (xgR q6 a0 3 4).bind fun v8 =>
  (fX0_readFrom v7 v8 (i1 * (72 : Int32)) q6).bind fun q9 =>
  (xgR q9 a0 3 0).bind fun v10 =>
  (fX0_code v10 q9).bind fun q11 =>
  some (q11.1, q11.2)
  else none
theorem iX3_restore {a0 : Nat} {i1 : Int32} {w : XW} {R9 : (Int32 × XW)} (h : fX3_restore a0 i1 w = some R9) : xis w a0 3 = true := by
  unfold fX3_restore at h
  rcases xite h with ⟨hc, h⟩ | ⟨hc, h⟩
  · exact hc
  · exact absurd h (by simp)
theorem np_X3_restore : (parseMethodDescriptor yX3_restore.desc).map (fun d => d.parameters.length) = some 1 := by decide +kernel
theorem hy_X3_restore : yX3_restore.cls ≠ "java/lang/invoke/MethodHandle" ∧ yX3_restore.cls ≠ "java/lang/invoke/VarHandle" := ⟨by decide +kernel, by decide +kernel⟩
set_option maxRecDepth 20000 in
theorem eX3_restore {cx : CX} {a0 : Nat} {i1 : Int32} {w : XW} {R9 : (Int32 × XW)} (h : fX3_restore a0 i1 w = some R9) : Ct yX3_restore cX3_restore 2 (some .int) 3 82 cx [.ref a0, .int i1] w (some (.int R9.1)) R9.2 := by
  refine Ct_of (by decide +kernel) (Nat.le_of_ble_eq_true rfl) (fun K B hR => ?_)
  rw [fX3_restore] at h
  show Wx K cx 2 w.length 0 [(0, .ref a0), (1, .int i1)] [] w
  rcases xite h with ⟨hc, h⟩ | ⟨hc, h⟩
  · skip
    refine x_iload_n (pc := 0) B 1 dX3_restore_0 rfl rfl ?_
    refine x_aload_n (pc := 1) B 0 dX3_restore_1 rfl rfl ?_
    obtain ⟨v1, hv, h⟩ := xbind h
    refine x_getR (k0 := 5) (pc := 2) B dX3_restore_2 rfl xi_3 (by decide) ⟨rfl, rfl, rfl⟩ xt_122 hv ?_
    obtain ⟨v2, hv, h⟩ := xbind h
    refine x_alen (pc := 5) B dX3_restore_5 hv ?_
    obtain ⟨q3, hq, h⟩ := xbind h
    refine x_callS1 (st := []) (pc := 6) B dX3_restore_6 (eX3_isWithin hq) xt_142 xt_53 np_X3_isWithin hy_X3_isWithin (Nat.le_of_ble_eq_true rfl) (Nat.le_of_ble_eq_true rfl) (Nat.le_of_ble_eq_true rfl) xt_141 xt_140 rfl ?_
    rcases xite h with ⟨hc, h⟩ | ⟨hc, h⟩
    · refine x_if_ne_f (pc := 9) B 15 dX3_restore_9 (by decide) hc ?_
      refine x_bipush (pc := 12) B dX3_restore_12 xk_bipush_m2 ?_
      exact x_iret (pc := 14) B hR dX3_restore_14 (xzI _) h
    · refine x_if_ne_t (tgt := 15) (pc := 9) B dX3_restore_9 (by decide) hc ?_
      refine x_aload_n (pc := 15) B 0 dX3_restore_15 rfl rfl ?_
      obtain ⟨v4, hv, h⟩ := xbind h
      refine x_getR (k0 := 5) (pc := 16) B dX3_restore_16 rfl xi_3 (by decide) ⟨rfl, rfl, rfl⟩ xt_122 hv ?_
      refine x_iload_n (pc := 19) B 1 dX3_restore_19 rfl rfl ?_
      obtain ⟨v5, hv, h⟩ := xbind h
      refine x_zald (pc := 20) B dX3_restore_20 hv ?_
      rcases xite h with ⟨hc, h⟩ | ⟨hc, h⟩
      · refine x_if_ne_f (pc := 21) B 27 dX3_restore_21 (by decide) hc ?_
        refine x_bipush (pc := 24) B dX3_restore_24 xk_bipush_m5 ?_
        exact x_iret (pc := 26) B hR dX3_restore_26 (xzI _) h
      · refine x_if_ne_t (tgt := 27) (pc := 21) B dX3_restore_21 (by decide) hc ?_
        refine x_aload_n (pc := 27) B 0 dX3_restore_27 rfl rfl ?_
        obtain ⟨q6, hq, h⟩ := xbind h
        refine x_callV0 (st := []) (pc := 28) B dX3_restore_28 (eX3_record hq) xt_159 xt_53 np_X3_record hy_X3_record (Nat.le_of_ble_eq_true rfl) (Nat.le_of_ble_eq_true rfl) (Nat.le_of_ble_eq_true rfl) xt_158 xt_1 xt_156 rfl (iX3_record hq) rfl ?_
        refine x_aload_n (pc := 31) B 0 dX3_restore_31 rfl rfl ?_
        obtain ⟨v7, hv, h⟩ := xbind h
        refine x_getR (k0 := 0) (pc := 32) B dX3_restore_32 rfl xi_3 (by decide) ⟨rfl, rfl, rfl⟩ xt_117 hv ?_
        refine x_aload_n (pc := 35) B 0 dX3_restore_35 rfl rfl ?_
        obtain ⟨v8, hv, h⟩ := xbind h
        refine x_getR (k0 := 4) (pc := 36) B dX3_restore_36 rfl xi_3 (by decide) ⟨rfl, rfl, rfl⟩ xt_121 hv ?_
        refine x_iload_n (pc := 39) B 1 dX3_restore_39 rfl rfl ?_
        refine x_bipush (pc := 40) B dX3_restore_40 xk_bipush_72 ?_
        refine x_imul (pc := 42) B dX3_restore_42 ?_
        obtain ⟨q9, hq, h⟩ := xbind h
        refine x_callV0 (st := []) (pc := 43) B dX3_restore_43 (eX0_readFrom hq) xt_240 xt_54 np_X0_readFrom hy_X0_readFrom (Nat.le_of_ble_eq_true rfl) (Nat.le_of_ble_eq_true rfl) (Nat.le_of_ble_eq_true rfl) xt_238 xt_239 xt_587 rfl (iX0_readFrom hq) rfl ?_
        refine x_aload_n (pc := 46) B 0 dX3_restore_46 rfl rfl ?_
        obtain ⟨v10, hv, h⟩ := xbind h
        refine x_getR (k0 := 0) (pc := 47) B dX3_restore_47 rfl xi_3 (by decide) ⟨rfl, rfl, rfl⟩ xt_117 hv ?_
        obtain ⟨q11, hq, h⟩ := xbind h
        refine x_callV1 (st := []) (pc := 50) B dX3_restore_50 (eX0_code hq) xt_413 xt_54 np_X0_code hy_X0_code (Nat.le_of_ble_eq_true rfl) (Nat.le_of_ble_eq_true rfl) (Nat.le_of_ble_eq_true rfl) xt_411 xt_412 xt_410 rfl (iX0_code hq) rfl ?_
        exact x_iret (pc := 53) B hR dX3_restore_53 (xzI _) h
  · exact absurd h (by simp)
