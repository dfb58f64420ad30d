def fX1_length (a0 : Nat) (w : XW) : Option (Int32 × XW) := if xis w a0 1 = true then
  (xgI w a0 1 1).bind fun v1 =>
  some (v1, w)
  else none
theorem iX1_length {a0 : Nat} {w : XW} {R9 : (Int32 × XW)} (h : fX1_length a0 w = some R9) : xis w a0 1 = true := by
  unfold fX1_length at h
  rcases xite h with ⟨hc, h⟩ | ⟨hc, h⟩
  · exact hc
  · exact absurd h (by simp)
theorem np_X1_length : (parseMethodDescriptor yX1_length.desc).map (fun d => d.parameters.length) = some 0 := by decide +kernel
theorem hy_X1_length : yX1_length.cls ≠ "java/lang/invoke/MethodHandle" ∧ yX1_length.cls ≠ "java/lang/invoke/VarHandle" := ⟨by decide +kernel, by decide +kernel⟩
set_option maxRecDepth 20000 in
theorem eX1_length {cx : CX} {a0 : Nat} {w : XW} {R9 : (Int32 × XW)} (h : fX1_length a0 w = some R9) : Ct yX1_length cX1_length 1 (some .int) 0 0 cx [.ref a0] w (some (.int R9.1)) R9.2 := by
  refine Ct_of (by decide +kernel) (Nat.le_of_ble_eq_true rfl) (fun K B hR => ?_)
  rw [fX1_length] at h
  show Wx K cx 1 w.length 0 [(0, .ref a0)] [] w
  rcases xite h with ⟨hc, h⟩ | ⟨hc, h⟩
  · skip
    refine x_aload_n (pc := 0) B 0 dX1_length_0 rfl rfl ?_
    obtain ⟨v1, hv, h⟩ := xbind h
    refine x_getI (k0 := 1) (pc := 1) B dX1_length_1 rfl xi_1 (by decide) ⟨rfl, rfl, rfl⟩ xt_114 hv ?_
    exact x_iret (pc := 4) B hR dX1_length_4 (xzI _) h
  · exact absurd h (by simp)
def fX1_append (a0 : Nat) (i1 : Int32) (w : XW) : Option XW := if xis w a0 1 = true then
  (xgI w a0 1 1).bind fun v1 =>
  (xgR w a0 1 0).bind fun v2 =>
  (xaL w v2).bind fun v3 =>
  (fX3_isWithin v1 v3 w).bind fun q4 =>
  if q4.1 = (0 : Int32) then
    some q4.2
  else
  (xgR q4.2 a0 1 0).bind fun v5 =>
  (xgI q4.2 a0 1 1).bind fun v6 =>
  (xsI q4.2 v5 v6 i1).bind fun w7 =>
  (xgI w7 a0 1 1).bind fun v8 =>
  (xpI w7 a0 1 1 (v8 + (1 : Int32))).bind fun w9 =>
  some w9
  else none
theorem iX1_append {a0 : Nat} {i1 : Int32} {w : XW} {R9 : XW} (h : fX1_append a0 i1 w = some R9) : xis w a0 1 = true := by
  unfold fX1_append at h
  rcases xite h with ⟨hc, h⟩ | ⟨hc, h⟩
  · exact hc
  · exact absurd h (by simp)
theorem np_X1_append : (parseMethodDescriptor yX1_append.desc).map (fun d => d.parameters.length) = some 1 := by decide +kernel
theorem hy_X1_append : yX1_append.cls ≠ "java/lang/invoke/MethodHandle" ∧ yX1_append.cls ≠ "java/lang/invoke/VarHandle" := ⟨by decide +kernel, by decide +kernel⟩
set_option maxRecDepth 20000 in
theorem eX1_append {cx : CX} {a0 : Nat} {i1 : Int32} {w : XW} {R9 : XW} (h : fX1_append a0 i1 w = some R9) : Ct yX1_append cX1_append 2 none 1 21 cx [.ref a0, .int i1] w none R9 := by
  refine Ct_of (by decide +kernel) (Nat.le_of_ble_eq_true rfl) (fun K B hR => ?_)
  rw [fX1_append] at h
  show Wx K cx 2 w.length 0 [(0, .ref a0), (1, .int i1)] [] w
  rcases xite h with ⟨hc, h⟩ | ⟨hc, h⟩
  · skip
    refine x_aload_n (pc := 0) B 0 dX1_append_0 rfl rfl ?_
    obtain ⟨v1, hv, h⟩ := xbind h
    refine x_getI (k0 := 1) (pc := 1) B dX1_append_1 rfl xi_1 (by decide) ⟨rfl, rfl, rfl⟩ xt_114 hv ?_
    refine x_aload_n (pc := 4) B 0 dX1_append_4 rfl rfl ?_
    obtain ⟨v2, hv, h⟩ := xbind h
    refine x_getR (k0 := 0) (pc := 5) B dX1_append_5 rfl xi_1 (by decide) ⟨rfl, rfl, rfl⟩ xt_113 hv ?_
    obtain ⟨v3, hv, h⟩ := xbind h
    refine x_alen (pc := 8) B dX1_append_8 hv ?_
    obtain ⟨q4, hq, h⟩ := xbind h
    refine x_callSN1 (st := []) (pc := 9) B dX1_append_9 (eX3_isWithin hq) xt_142 xt_53 np_X3_isWithin hy_X3_isWithin (Nat.le_of_ble_eq_true rfl) (Nat.le_of_ble_eq_true rfl) (Nat.le_of_ble_eq_true rfl) xt_141 (List.mem_of_getElem? (i := 4) rfl) rfl ?_
    rcases xite h with ⟨hc, h⟩ | ⟨hc, h⟩
    · refine x_if_eq_t (tgt := 35) (pc := 12) B dX1_append_12 (by decide) hc ?_
      exact x_vret (pc := 35) B hR dX1_append_35 h
    · refine x_if_eq_f (pc := 12) B 35 dX1_append_12 (by decide) hc ?_
      refine x_aload_n (pc := 15) B 0 dX1_append_15 rfl rfl ?_
      obtain ⟨v5, hv, h⟩ := xbind h
      refine x_getR (k0 := 0) (pc := 16) B dX1_append_16 rfl xi_1 (by decide) ⟨rfl, rfl, rfl⟩ xt_113 hv ?_
      refine x_aload_n (pc := 19) B 0 dX1_append_19 rfl rfl ?_
      obtain ⟨v6, hv, h⟩ := xbind h
      refine x_getI (k0 := 1) (pc := 20) B dX1_append_20 rfl xi_1 (by decide) ⟨rfl, rfl, rfl⟩ xt_114 hv ?_
      refine x_iload_n (pc := 23) B 1 dX1_append_23 rfl rfl ?_
      obtain ⟨w7, hv, h⟩ := xbind h
      refine x_iast (pc := 24) B dX1_append_24 hv ?_
      refine x_aload_n (pc := 25) B 0 dX1_append_25 rfl rfl ?_
      refine x_dup (pc := 26) B dX1_append_26 rfl ?_
      obtain ⟨v8, hv, h⟩ := xbind h
      refine x_getI (k0 := 1) (pc := 27) B dX1_append_27 rfl xi_1 (by decide) ⟨rfl, rfl, rfl⟩ xt_114 hv ?_
      refine x_iconst (pc := 30) B dX1_append_30 xk_iconst_1 ?_
      refine x_iadd (pc := 31) B dX1_append_31 ?_
      obtain ⟨w9, hv, h⟩ := xbind h
      refine x_putI (k0 := 1) (pc := 32) B dX1_append_32 rfl xi_1 (by decide) ⟨rfl, rfl, rfl⟩ xt_114 tyX1_ok nmX1 rfl xpdI hv ?_
      exact x_vret (pc := 35) B hR dX1_append_35 h
  · exact absurd h (by simp)
def fX1_clear (a0 : Nat) (w : XW) : Option XW := if xis w a0 1 = true then
  (xpI w a0 1 1 (0 : Int32)).bind fun w1 =>
  some w1
  else none
theorem iX1_clear {a0 : Nat} {w : XW} {R9 : XW} (h : fX1_clear a0 w = some R9) : xis w a0 1 = true := by
  unfold fX1_clear at h
  rcases xite h with ⟨hc, h⟩ | ⟨hc, h⟩
  · exact hc
  · exact absurd h (by simp)
theorem np_X1_clear : (parseMethodDescriptor yX1_clear.desc).map (fun d => d.parameters.length) = some 0 := by decide +kernel
theorem hy_X1_clear : yX1_clear.cls ≠ "java/lang/invoke/MethodHandle" ∧ yX1_clear.cls ≠ "java/lang/invoke/VarHandle" := ⟨by decide +kernel, by decide +kernel⟩
set_option maxRecDepth 20000 in
theorem eX1_clear {cx : CX} {a0 : Nat} {w : XW} {R9 : XW} (h : fX1_clear a0 w = some R9) : Ct yX1_clear cX1_clear 1 none 0 0 cx [.ref a0] w none R9 := by
  refine Ct_of (by decide +kernel) (Nat.le_of_ble_eq_true rfl) (fun K B hR => ?_)
  rw [fX1_clear] at h
  show Wx K cx 1 w.length 0 [(0, .ref a0)] [] w
  rcases xite h with ⟨hc, h⟩ | ⟨hc, h⟩
  · skip
    refine x_aload_n (pc := 0) B 0 dX1_clear_0 rfl rfl ?_
    refine x_iconst (pc := 1) B dX1_clear_1 xk_iconst_0 ?_
    obtain ⟨w1, hv, h⟩ := xbind h
    refine x_putI (k0 := 1) (pc := 2) B dX1_clear_2 rfl xi_1 (by decide) ⟨rfl, rfl, rfl⟩ xt_114 tyX1_ok nmX1 rfl xpdI hv ?_
    exact x_vret (pc := 5) B hR dX1_clear_5 h
  · exact absurd h (by simp)
def fX1_signAt (a0 : Nat) (i1 : Int32) (w : XW) : Option (Int32 × XW) := if xis w a0 1 = true then
  if i1 < (0 : Int32) then
    some ((0 : Int32), w)
  else
  (xgI w a0 1 1).bind fun v1 =>
  if v1 ≤ i1 then
    some ((0 : Int32), w)
  else
  (xgR w a0 1 0).bind fun v2 =>
  (xaL w v2).bind fun v3 =>
  if v3 ≤ i1 then
    some ((0 : Int32), w)
  else
  (xgR w a0 1 0).bind fun v4 =>
  (xaI w v4 i1).bind fun v5 =>
  some (v5, w)
  else none
theorem iX1_signAt {a0 : Nat} {i1 : Int32} {w : XW} {R9 : (Int32 × XW)} (h : fX1_signAt a0 i1 w = some R9) : xis w a0 1 = true := by
  unfold fX1_signAt at h
  rcases xite h with ⟨hc, h⟩ | ⟨hc, h⟩
  · exact hc
  · exact absurd h (by simp)
theorem np_X1_signAt : (parseMethodDescriptor yX1_signAt.desc).map (fun d => d.parameters.length) = some 1 := by decide +kernel
theorem hy_X1_signAt : yX1_signAt.cls ≠ "java/lang/invoke/MethodHandle" ∧ yX1_signAt.cls ≠ "java/lang/invoke/VarHandle" := ⟨by decide +kernel, by decide +kernel⟩
set_option maxRecDepth 20000 in
theorem eX1_signAt {cx : CX} {a0 : Nat} {i1 : Int32} {w : XW} {R9 : (Int32 × XW)} (h : fX1_signAt a0 i1 w = some R9) : Ct yX1_signAt cX1_signAt 2 (some .int) 0 0 cx [.ref a0, .int i1] w (some (.int R9.1)) R9.2 := by
  refine Ct_of (by decide +kernel) (Nat.le_of_ble_eq_true rfl) (fun K B hR => ?_)
  rw [fX1_signAt] at h
  show Wx K cx 2 w.length 0 [(0, .ref a0), (1, .int i1)] [] w
  rcases xite h with ⟨hc, h⟩ | ⟨hc, h⟩
  · skip
    refine x_iload_n (pc := 0) B 1 dX1_signAt_0 rfl rfl ?_
    rcases xite h with ⟨hc, h⟩ | ⟨hc, h⟩
    · refine x_if_lt_t (tgt := 30) (pc := 1) B dX1_signAt_1 (by decide) hc ?_
      refine x_iconst (pc := 30) B dX1_signAt_30 xk_iconst_0 ?_
      exact x_iret (pc := 31) B hR dX1_signAt_31 (xzI _) h
    · refine x_if_lt_f (pc := 1) B 30 dX1_signAt_1 (by decide) hc ?_
      refine x_iload_n (pc := 4) B 1 dX1_signAt_4 rfl rfl ?_
      refine x_aload_n (pc := 5) B 0 dX1_signAt_5 rfl rfl ?_
      obtain ⟨v1, hv, h⟩ := xbind h
      refine x_getI (k0 := 1) (pc := 6) B dX1_signAt_6 rfl xi_1 (by decide) ⟨rfl, rfl, rfl⟩ xt_114 hv ?_
      rcases xite h with ⟨hc, h⟩ | ⟨hc, h⟩
      · refine x_icmp_ge_t (tgt := 30) (pc := 9) B dX1_signAt_9 (by decide) hc ?_
        refine x_iconst (pc := 30) B dX1_signAt_30 xk_iconst_0 ?_
        exact x_iret (pc := 31) B hR dX1_signAt_31 (xzI _) h
      · refine x_icmp_ge_f (pc := 9) B 30 dX1_signAt_9 (by decide) hc ?_
        refine x_iload_n (pc := 12) B 1 dX1_signAt_12 rfl rfl ?_
        refine x_aload_n (pc := 13) B 0 dX1_signAt_13 rfl rfl ?_
        obtain ⟨v2, hv, h⟩ := xbind h
        refine x_getR (k0 := 0) (pc := 14) B dX1_signAt_14 rfl xi_1 (by decide) ⟨rfl, rfl, rfl⟩ xt_113 hv ?_
        obtain ⟨v3, hv, h⟩ := xbind h
        refine x_alen (pc := 17) B dX1_signAt_17 hv ?_
        rcases xite h with ⟨hc, h⟩ | ⟨hc, h⟩
        · refine x_icmp_ge_t (tgt := 30) (pc := 18) B dX1_signAt_18 (by decide) hc ?_
          refine x_iconst (pc := 30) B dX1_signAt_30 xk_iconst_0 ?_
          exact x_iret (pc := 31) B hR dX1_signAt_31 (xzI _) h
        · refine x_icmp_ge_f (pc := 18) B 30 dX1_signAt_18 (by decide) hc ?_
          refine x_aload_n (pc := 21) B 0 dX1_signAt_21 rfl rfl ?_
          obtain ⟨v4, hv, h⟩ := xbind h
          refine x_getR (k0 := 0) (pc := 22) B dX1_signAt_22 rfl xi_1 (by decide) ⟨rfl, rfl, rfl⟩ xt_113 hv ?_
          refine x_iload_n (pc := 25) B 1 dX1_signAt_25 rfl rfl ?_
          obtain ⟨v5, hv, h⟩ := xbind h
          refine x_iald (pc := 26) B dX1_signAt_26 hv ?_
          refine x_goto (tgt := 31) (pc := 27) B dX1_signAt_27 (by decide) ?_
          exact x_iret (pc := 31) B hR dX1_signAt_31 (xzI _) h
  · exact absurd h (by simp)
def fX1_shapeOf (a0 : Nat) (i1 : Int32) (w : XW) : Option (Nat × XW) := if xis w a0 1 = true then
  (fX1_signAt a0 i1 w).bind fun q1 =>
  if q1.1 = (97 : Int32) then
    some ((1000 + 1), q1.2)
  else
  if q1.1 = (111 : Int32) then
    some ((1000 + 4), q1.2)
  else
  if q1.1 = (115 : Int32) then
    some ((1000 + 1), q1.2)
  else
  if q1.1 = (117 : Int32) then
    (fX1_signAt a0 (i1 + (5 : Int32)) q1.2).bind fun q2 =>
    if q2.1 = (45 : Int32) then
      some ((1000 + 2), q2.2)
    else
    some ((1000 + 3), q2.2)
  else
  if q1.1 = (118 : Int32) then
    (fX1_signAt a0 (i1 + (5 : Int32)) q1.2).bind fun q3 =>
    if q3.1 = (45 : Int32) then
      some ((1000 + 2), q3.2)
    else
    some ((1000 + 3), q3.2)
  else
  if q1.1 = (119 : Int32) then
    some ((1000 + 0), q1.2)
  else
  some ((1000 + 5), q1.2)
  else none
theorem iX1_shapeOf {a0 : Nat} {i1 : Int32} {w : XW} {R9 : (Nat × XW)} (h : fX1_shapeOf a0 i1 w = some R9) : xis w a0 1 = true := by
  unfold fX1_shapeOf at h
  rcases xite h with ⟨hc, h⟩ | ⟨hc, h⟩
  · exact hc
  · exact absurd h (by simp)
theorem np_X1_shapeOf : (parseMethodDescriptor yX1_shapeOf.desc).map (fun d => d.parameters.length) = some 1 := by decide +kernel
theorem hy_X1_shapeOf : yX1_shapeOf.cls ≠ "java/lang/invoke/MethodHandle" ∧ yX1_shapeOf.cls ≠ "java/lang/invoke/VarHandle" := ⟨by decide +kernel, by decide +kernel⟩
set_option maxRecDepth 20000 in
theorem eX1_shapeOf {cx : CX} {a0 : Nat} {i1 : Int32} {w : XW} {R9 : (Nat × XW)} (h : fX1_shapeOf a0 i1 w = some R9) : Ct yX1_shapeOf cX1_shapeOf 2 (some (.object "java/lang/String")) 1 21 cx [.ref a0, .int i1] w (some (.ref R9.1)) R9.2 := by
  refine Ct_of (by decide +kernel) (Nat.le_of_ble_eq_true rfl) (fun K B hR => ?_)
  rw [fX1_shapeOf] at h
  show Wx K cx 2 w.length 0 [(0, .ref a0), (1, .int i1)] [] w
  rcases xite h with ⟨hc, h⟩ | ⟨hc, h⟩
  · skip
    refine x_aload_n (pc := 0) B 0 dX1_shapeOf_0 rfl rfl ?_
    refine x_iload_n (pc := 1) B 1 dX1_shapeOf_1 rfl rfl ?_
    obtain ⟨q1, hq, h⟩ := xbind h
    refine x_callV1 (st := []) (pc := 2) B dX1_shapeOf_2 (eX1_signAt hq) xt_493 xt_57 np_X1_signAt hy_X1_signAt (Nat.le_of_ble_eq_true rfl) (Nat.le_of_ble_eq_true rfl) (Nat.le_of_ble_eq_true rfl) xt_491 xt_492 xt_490 rfl (iX1_signAt hq) rfl ?_
    rcases xite h with ⟨hc0, h⟩ | ⟨hc0, h⟩
    · refine x_look (tgt := 70) (off := 65) (pc := 5) B dX1_shapeOf_5 (by decide +kernel) (by rw [hc0]; decide +kernel) (by decide) ?_
      refine x_ldcS (pc := 70) (q0 := 1) (t := "0>0") B dX1_shapeOf_70 rfl (List.mem_of_getElem? (i := 1) rfl) (by decide) ?_
      exact x_aret (pc := 72) B hR dX1_shapeOf_72 h
    · skip
      rcases xite h with ⟨hc1, h⟩ | ⟨hc1, h⟩
      · refine x_look (tgt := 113) (off := 108) (pc := 5) B dX1_shapeOf_5 (by decide +kernel) (by rw [hc1]; decide +kernel) (by decide) ?_
        refine x_ldcS (pc := 113) (q0 := 4) (t := "00=9") B dX1_shapeOf_113 rfl (List.mem_of_getElem? (i := 4) rfl) (by decide) ?_
        exact x_aret (pc := 115) B hR dX1_shapeOf_115 h
      · skip
        rcases xite h with ⟨hc2, h⟩ | ⟨hc2, h⟩
        · refine x_look (tgt := 67) (off := 62) (pc := 5) B dX1_shapeOf_5 (by decide +kernel) (by rw [hc2]; decide +kernel) (by decide) ?_
          refine x_ldcS (pc := 67) (q0 := 1) (t := "0>0") B dX1_shapeOf_67 rfl (List.mem_of_getElem? (i := 1) rfl) (by decide) ?_
          exact x_aret (pc := 69) B hR dX1_shapeOf_69 h
        · skip
          rcases xite h with ⟨hc3, h⟩ | ⟨hc3, h⟩
          · refine x_look (tgt := 73) (off := 68) (pc := 5) B dX1_shapeOf_5 (by decide +kernel) (by rw [hc3]; decide +kernel) (by decide) ?_
            refine x_aload_n (pc := 73) B 0 dX1_shapeOf_73 rfl rfl ?_
            refine x_iload_n (pc := 74) B 1 dX1_shapeOf_74 rfl rfl ?_
            refine x_iconst (pc := 75) B dX1_shapeOf_75 xk_iconst_5 ?_
            refine x_iadd (pc := 76) B dX1_shapeOf_76 ?_
            obtain ⟨q2, hq, h⟩ := xbind h
            refine x_callV1 (st := []) (pc := 77) B dX1_shapeOf_77 (eX1_signAt hq) xt_493 xt_57 np_X1_signAt hy_X1_signAt (Nat.le_of_ble_eq_true rfl) (Nat.le_of_ble_eq_true rfl) (Nat.le_of_ble_eq_true rfl) xt_491 xt_492 xt_490 rfl (iX1_signAt hq) rfl ?_
            refine x_bipush (pc := 80) B dX1_shapeOf_80 xk_bipush_45 ?_
            rcases xite h with ⟨hc, h⟩ | ⟨hc, h⟩
            · refine x_icmp_ne_f (pc := 82) B 90 dX1_shapeOf_82 (by decide) hc ?_
              refine x_ldcS (pc := 85) (q0 := 2) (t := "000=-9") B dX1_shapeOf_85 rfl (List.mem_of_getElem? (i := 2) rfl) (by decide) ?_
              refine x_goto (tgt := 92) (pc := 87) B dX1_shapeOf_87 (by decide) ?_
              exact x_aret (pc := 92) B hR dX1_shapeOf_92 h
            · refine x_icmp_ne_t (tgt := 90) (pc := 82) B dX1_shapeOf_82 (by decide) hc ?_
              refine x_ldcS (pc := 90) (q0 := 3) (t := "000=9") B dX1_shapeOf_90 rfl (List.mem_of_getElem? (i := 3) rfl) (by decide) ?_
              exact x_aret (pc := 92) B hR dX1_shapeOf_92 h
          · skip
            rcases xite h with ⟨hc4, h⟩ | ⟨hc4, h⟩
            · refine x_look (tgt := 93) (off := 88) (pc := 5) B dX1_shapeOf_5 (by decide +kernel) (by rw [hc4]; decide +kernel) (by decide) ?_
              refine x_aload_n (pc := 93) B 0 dX1_shapeOf_93 rfl rfl ?_
              refine x_iload_n (pc := 94) B 1 dX1_shapeOf_94 rfl rfl ?_
              refine x_iconst (pc := 95) B dX1_shapeOf_95 xk_iconst_5 ?_
              refine x_iadd (pc := 96) B dX1_shapeOf_96 ?_
              obtain ⟨q3, hq, h⟩ := xbind h
              refine x_callV1 (st := []) (pc := 97) B dX1_shapeOf_97 (eX1_signAt hq) xt_493 xt_57 np_X1_signAt hy_X1_signAt (Nat.le_of_ble_eq_true rfl) (Nat.le_of_ble_eq_true rfl) (Nat.le_of_ble_eq_true rfl) xt_491 xt_492 xt_490 rfl (iX1_signAt hq) rfl ?_
              refine x_bipush (pc := 100) B dX1_shapeOf_100 xk_bipush_45 ?_
              rcases xite h with ⟨hc, h⟩ | ⟨hc, h⟩
              · refine x_icmp_ne_f (pc := 102) B 110 dX1_shapeOf_102 (by decide) hc ?_
                refine x_ldcS (pc := 105) (q0 := 2) (t := "000=-9") B dX1_shapeOf_105 rfl (List.mem_of_getElem? (i := 2) rfl) (by decide) ?_
                refine x_goto (tgt := 112) (pc := 107) B dX1_shapeOf_107 (by decide) ?_
                exact x_aret (pc := 112) B hR dX1_shapeOf_112 h
              · refine x_icmp_ne_t (tgt := 110) (pc := 102) B dX1_shapeOf_102 (by decide) hc ?_
                refine x_ldcS (pc := 110) (q0 := 3) (t := "000=9") B dX1_shapeOf_110 rfl (List.mem_of_getElem? (i := 3) rfl) (by decide) ?_
                exact x_aret (pc := 112) B hR dX1_shapeOf_112 h
            · skip
              rcases xite h with ⟨hc5, h⟩ | ⟨hc5, h⟩
              · refine x_look (tgt := 64) (off := 59) (pc := 5) B dX1_shapeOf_5 (by decide +kernel) (by rw [hc5]; decide +kernel) (by decide) ?_
                refine x_ldcS (pc := 64) (q0 := 0) (t := "0=9") B dX1_shapeOf_64 rfl (List.mem_of_getElem? (i := 0) rfl) (by decide) ?_
                exact x_aret (pc := 66) B hR dX1_shapeOf_66 h
              · skip
                refine x_look (tgt := 116) (off := 111) (pc := 5) B dX1_shapeOf_5 (by decide +kernel) ?_ (by decide) ?_
                · show Op.lookupswitch.offset [(97, 65), (111, 108), (115, 62), (117, 68), (118, 88), (119, 59)] 111 _ = _
                  rw [lv_osw hc0 (by decide +kernel), lv_osw hc1 (by decide +kernel), lv_osw hc2 (by decide +kernel), lv_osw hc3 (by decide +kernel), lv_osw hc4 (by decide +kernel), lv_osw hc5 (by decide +kernel)]
                  rfl
                refine x_ldcS (pc := 116) (q0 := 5) (t := "") B dX1_shapeOf_116 rfl (List.mem_of_getElem? (i := 5) rfl) (by decide) ?_
                exact x_aret (pc := 118) B hR dX1_shapeOf_118 h
  · exact absurd h (by simp)
def fX1_fits (i0 : Int32) (i1 : Int32) (w : XW) : Option (Int32 × XW) :=
  if i1 = (48 : Int32) then
    if i0 < (48 : Int32) then
      some ((0 : Int32), w)
    else
    if (50 : Int32) < i0 then
      some ((0 : Int32), w)
    else
    some ((1 : Int32), w)
  else
  if i1 = (57 : Int32) then
    if i0 < (48 : Int32) then
      some ((0 : Int32), w)
    else
    if (57 : Int32) < i0 then
      some ((0 : Int32), w)
    else
    some ((1 : Int32), w)
  else
  if i0 = i1 then
    some ((1 : Int32), w)
  else
  some ((0 : Int32), w)
theorem np_X1_fits : (parseMethodDescriptor yX1_fits.desc).map (fun d => d.parameters.length) = some 2 := by decide +kernel
theorem hy_X1_fits : yX1_fits.cls ≠ "java/lang/invoke/MethodHandle" ∧ yX1_fits.cls ≠ "java/lang/invoke/VarHandle" := ⟨by decide +kernel, by decide +kernel⟩
set_option maxRecDepth 20000 in
theorem eX1_fits {cx : CX} {i0 : Int32} {i1 : Int32} {w : XW} {R9 : (Int32 × XW)} (h : fX1_fits i0 i1 w = some R9) : Ct yX1_fits cX1_fits 2 (some .boolean) 0 0 cx [.int i0, .int i1] w (some (.int R9.1)) R9.2 := by
  refine Ct_of (by decide +kernel) (Nat.le_of_ble_eq_true rfl) (fun K B hR => ?_)
  rw [fX1_fits] at h
  show Wx K cx 2 w.length 0 [(0, .int i0), (1, .int i1)] [] w
  refine x_iload_n (pc := 0) B 1 dX1_fits_0 rfl rfl ?_
  rcases xite h with ⟨hc0, h⟩ | ⟨hc0, h⟩
  · refine x_look (tgt := 28) (off := 27) (pc := 1) B dX1_fits_1 (by decide +kernel) (by rw [hc0]; decide +kernel) (by decide) ?_
    refine x_iload_n (pc := 28) B 0 dX1_fits_28 rfl rfl ?_
    refine x_bipush (pc := 29) B dX1_fits_29 xk_bipush_48 ?_
    rcases xite h with ⟨hc, h⟩ | ⟨hc, h⟩
    · refine x_icmp_lt_t (tgt := 44) (pc := 31) B dX1_fits_31 (by decide) hc ?_
      refine x_iconst (pc := 44) B dX1_fits_44 xk_iconst_0 ?_
      exact x_iret (pc := 45) B hR dX1_fits_45 xz0 h
    · refine x_icmp_lt_f (pc := 31) B 44 dX1_fits_31 (by decide) hc ?_
      refine x_iload_n (pc := 34) B 0 dX1_fits_34 rfl rfl ?_
      refine x_bipush (pc := 35) B dX1_fits_35 xk_bipush_50 ?_
      rcases xite h with ⟨hc, h⟩ | ⟨hc, h⟩
      · refine x_icmp_gt_t (tgt := 44) (pc := 37) B dX1_fits_37 (by decide) hc ?_
        refine x_iconst (pc := 44) B dX1_fits_44 xk_iconst_0 ?_
        exact x_iret (pc := 45) B hR dX1_fits_45 xz0 h
      · refine x_icmp_gt_f (pc := 37) B 44 dX1_fits_37 (by decide) hc ?_
        refine x_iconst (pc := 40) B dX1_fits_40 xk_iconst_1 ?_
        refine x_goto (tgt := 45) (pc := 41) B dX1_fits_41 (by decide) ?_
        exact x_iret (pc := 45) B hR dX1_fits_45 xz1 h
  · skip
    rcases xite h with ⟨hc1, h⟩ | ⟨hc1, h⟩
    · refine x_look (tgt := 46) (off := 45) (pc := 1) B dX1_fits_1 (by decide +kernel) (by rw [hc1]; decide +kernel) (by decide) ?_
      refine x_iload_n (pc := 46) B 0 dX1_fits_46 rfl rfl ?_
      refine x_bipush (pc := 47) B dX1_fits_47 xk_bipush_48 ?_
      rcases xite h with ⟨hc, h⟩ | ⟨hc, h⟩
      · refine x_icmp_lt_t (tgt := 62) (pc := 49) B dX1_fits_49 (by decide) hc ?_
        refine x_iconst (pc := 62) B dX1_fits_62 xk_iconst_0 ?_
        exact x_iret (pc := 63) B hR dX1_fits_63 xz0 h
      · refine x_icmp_lt_f (pc := 49) B 62 dX1_fits_49 (by decide) hc ?_
        refine x_iload_n (pc := 52) B 0 dX1_fits_52 rfl rfl ?_
        refine x_bipush (pc := 53) B dX1_fits_53 xk_bipush_57 ?_
        rcases xite h with ⟨hc, h⟩ | ⟨hc, h⟩
        · refine x_icmp_gt_t (tgt := 62) (pc := 55) B dX1_fits_55 (by decide) hc ?_
          refine x_iconst (pc := 62) B dX1_fits_62 xk_iconst_0 ?_
          exact x_iret (pc := 63) B hR dX1_fits_63 xz0 h
        · refine x_icmp_gt_f (pc := 55) B 62 dX1_fits_55 (by decide) hc ?_
          refine x_iconst (pc := 58) B dX1_fits_58 xk_iconst_1 ?_
          refine x_goto (tgt := 63) (pc := 59) B dX1_fits_59 (by decide) ?_
          exact x_iret (pc := 63) B hR dX1_fits_63 xz1 h
    · skip
      refine x_look (tgt := 64) (off := 63) (pc := 1) B dX1_fits_1 (by decide +kernel) ?_ (by decide) ?_
      · show Op.lookupswitch.offset [(48, 27), (57, 45)] 63 _ = _
        rw [lv_osw hc0 (by decide +kernel), lv_osw hc1 (by decide +kernel)]
        rfl
      refine x_iload_n (pc := 64) B 0 dX1_fits_64 rfl rfl ?_
      refine x_iload_n (pc := 65) B 1 dX1_fits_65 rfl rfl ?_
      rcases xite h with ⟨hc, h⟩ | ⟨hc, h⟩
      · refine x_icmp_ne_f (pc := 66) B 73 dX1_fits_66 (by decide) hc ?_
        refine x_iconst (pc := 69) B dX1_fits_69 xk_iconst_1 ?_
        refine x_goto (tgt := 74) (pc := 70) B dX1_fits_70 (by decide) ?_
        exact x_iret (pc := 74) B hR dX1_fits_74 xz1 h
      · refine x_icmp_ne_t (tgt := 73) (pc := 66) B dX1_fits_66 (by decide) hc ?_
        refine x_iconst (pc := 73) B dX1_fits_73 xk_iconst_0 ?_
        exact x_iret (pc := 74) B hR dX1_fits_74 xz0 h
def fX1_faultOfOrder_17 : Nat → Nat → Int32 → Nat → Int32 → XW → Option (Int32 × XW)
  | 0, _, _, _, _, _ => none
  | g + 1, a0, i1, a2, i3, w =>
    (fJ0_length_8abf5 a2 w).bind fun q3 =>
    if q3.1 ≤ i3 then
      some ((-6 : Int32), q3.2)
    else
    (fX1_signAt a0 ((i1 + (1 : Int32)) + i3) q3.2).bind fun q4 =>
    (fJ0_charAt_5068e a2 i3 q4.2).bind fun q5 =>
    (fX1_fits q4.1 q5.1 q5.2).bind fun q6 =>
    if q6.1 = (0 : Int32) then
      some (((i1 + (1 : Int32)) + i3), q6.2)
    else
    fX1_faultOfOrder_17 g a0 i1 a2 (i3 + (1 : Int32)) q6.2
set_option maxRecDepth 20000 in
theorem pX1_faultOfOrder_17 {K : KX} {cx : CX} {nn : Nat} {R9 : Int32 × XW} (B : XB K cx RX1 cX1_faultOfOrder 4 nn 5 106) (hR : XR K cx nn (some .int) (some (.int R9.1)) R9.2) : ∀ (g : Nat) (a0 : Nat) (i1 : Int32) (a2 : Nat) (i3 : Int32) (w : XW), fX1_faultOfOrder_17 g a0 i1 a2 i3 w = some R9 → Wx K cx 4 nn 17 [(0, .ref a0), (1, .int i1), (2, .ref a2), (3, .int i3)] [] w := by
  intro g
  induction g with
  | zero =>
    intro a0 i1 a2 i3 w h
    exact absurd (show (none : Option (Int32 × XW)) = some R9 from h) (by simp)
  | succ g ih =>
    intro a0 i1 a2 i3 w h
    rw [fX1_faultOfOrder_17] at h
    refine x_iload_n (pc := 17) B 3 dX1_faultOfOrder_17 rfl rfl ?_
    refine x_aload_n (pc := 18) B 2 dX1_faultOfOrder_18 rfl rfl ?_
    obtain ⟨q3, hq, h⟩ := xbind h
    refine x_callVs1 (st := [.int i3]) (pc := 19) B dX1_faultOfOrder_19 (eJ0_length_8abf5 hq) xt_507 xt_62 np_J0_length_8abf5 hy_J0_length_8abf5 (Nat.le_of_ble_eq_true rfl) (Nat.le_of_ble_eq_true rfl) (Nat.le_of_ble_eq_true rfl) xt_505 xt_506 xt_504 rfl (iJ0_length_8abf5 hq) rfl ?_
    rcases xite h with ⟨hc, h⟩ | ⟨hc, h⟩
    · refine x_icmp_ge_t (tgt := 57) (pc := 22) B dX1_faultOfOrder_22 (by decide) hc ?_
      refine x_bipush (pc := 57) B dX1_faultOfOrder_57 xk_bipush_m6 ?_
      exact x_iret (pc := 59) B hR dX1_faultOfOrder_59 (xzI _) h
    · refine x_icmp_ge_f (pc := 22) B 57 dX1_faultOfOrder_22 (by decide) hc ?_
      refine x_aload_n (pc := 25) B 0 dX1_faultOfOrder_25 rfl rfl ?_
      refine x_iload_n (pc := 26) B 1 dX1_faultOfOrder_26 rfl rfl ?_
      refine x_iconst (pc := 27) B dX1_faultOfOrder_27 xk_iconst_1 ?_
      refine x_iadd (pc := 28) B dX1_faultOfOrder_28 ?_
      refine x_iload_n (pc := 29) B 3 dX1_faultOfOrder_29 rfl rfl ?_
      refine x_iadd (pc := 30) B dX1_faultOfOrder_30 ?_
      obtain ⟨q4, hq, h⟩ := xbind h
      refine x_callV1 (st := []) (pc := 31) B dX1_faultOfOrder_31 (eX1_signAt hq) xt_493 xt_57 np_X1_signAt hy_X1_signAt (Nat.le_of_ble_eq_true rfl) (Nat.le_of_ble_eq_true rfl) (Nat.le_of_ble_eq_true rfl) xt_491 xt_492 xt_490 rfl (iX1_signAt hq) rfl ?_
      refine x_aload_n (pc := 34) B 2 dX1_faultOfOrder_34 rfl rfl ?_
      refine x_iload_n (pc := 35) B 3 dX1_faultOfOrder_35 rfl rfl ?_
      obtain ⟨q5, hq, h⟩ := xbind h
      refine x_callVs1 (st := [.int q4.1]) (pc := 36) B dX1_faultOfOrder_36 (eJ0_charAt_5068e hq) xt_517 xt_62 np_J0_charAt_5068e hy_J0_charAt_5068e (Nat.le_of_ble_eq_true rfl) (Nat.le_of_ble_eq_true rfl) (Nat.le_of_ble_eq_true rfl) xt_515 xt_516 xt_514 rfl (iJ0_charAt_5068e hq) rfl ?_
      obtain ⟨q6, hq, h⟩ := xbind h
      refine x_callS1 (st := []) (pc := 39) B dX1_faultOfOrder_39 (eX1_fits hq) xt_554 xt_57 np_X1_fits hy_X1_fits (Nat.le_of_ble_eq_true rfl) (Nat.le_of_ble_eq_true rfl) (Nat.le_of_ble_eq_true rfl) xt_553 xt_552 rfl ?_
      rcases xite h with ⟨hc, h⟩ | ⟨hc, h⟩
      · refine x_if_ne_f (pc := 42) B 51 dX1_faultOfOrder_42 (by decide) hc ?_
        refine x_iload_n (pc := 45) B 1 dX1_faultOfOrder_45 rfl rfl ?_
        refine x_iconst (pc := 46) B dX1_faultOfOrder_46 xk_iconst_1 ?_
        refine x_iadd (pc := 47) B dX1_faultOfOrder_47 ?_
        refine x_iload_n (pc := 48) B 3 dX1_faultOfOrder_48 rfl rfl ?_
        refine x_iadd (pc := 49) B dX1_faultOfOrder_49 ?_
        exact x_iret (pc := 50) B hR dX1_faultOfOrder_50 (xzI _) h
      · refine x_if_ne_t (tgt := 51) (pc := 42) B dX1_faultOfOrder_42 (by decide) hc ?_
        refine x_iinc (L1 := [(3, .int (i3 + (1 : Int32))), (0, .ref a0), (1, .int i1), (2, .ref a2)]) (pc := 51) B 3 dX1_faultOfOrder_51 rfl (congrArg _ xk_iconst_1) (by decide) rfl ?_
        refine x_goto (tgt := 17) (pc := 54) B dX1_faultOfOrder_54 (by decide) ?_
        refine x_sub (L1 := [(0, .ref a0), (1, .int i1), (2, .ref a2), (3, .int (i3 + (1 : Int32)))]) [1, 2, 3, 0] rfl ?_
        exact ih a0 i1 a2 (i3 + (1 : Int32)) q6.2 h
def fX1_faultOfOrder (a0 : Nat) (i1 : Int32) (w : XW) : Option (Int32 × XW) := if xis w a0 1 = true then
  (fX1_shapeOf a0 i1 w).bind fun q1 =>
  (fJ0_isEmpty_aae02 q1.1 q1.2).bind fun q2 =>
  if q2.1 = (0 : Int32) then
    fX1_faultOfOrder_17 1000 a0 i1 q1.1 (0 : Int32) q2.2
  else
  some (i1, q2.2)
  else none
theorem iX1_faultOfOrder {a0 : Nat} {i1 : Int32} {w : XW} {R9 : (Int32 × XW)} (h : fX1_faultOfOrder a0 i1 w = some R9) : xis w a0 1 = true := by
  unfold fX1_faultOfOrder at h
  rcases xite h with ⟨hc, h⟩ | ⟨hc, h⟩
  · exact hc
  · exact absurd h (by simp)
theorem np_X1_faultOfOrder : (parseMethodDescriptor yX1_faultOfOrder.desc).map (fun d => d.parameters.length) = some 1 := by decide +kernel
theorem hy_X1_faultOfOrder : yX1_faultOfOrder.cls ≠ "java/lang/invoke/MethodHandle" ∧ yX1_faultOfOrder.cls ≠ "java/lang/invoke/VarHandle" := ⟨by decide +kernel, by decide +kernel⟩
set_option maxRecDepth 20000 in
theorem eX1_faultOfOrder {cx : CX} {a0 : Nat} {i1 : Int32} {w : XW} {R9 : (Int32 × XW)} (h : fX1_faultOfOrder a0 i1 w = some R9) : Ct yX1_faultOfOrder cX1_faultOfOrder 4 (some .int) 5 106 cx [.ref a0, .int i1] w (some (.int R9.1)) R9.2 := by
  refine Ct_of (by decide +kernel) (Nat.le_of_ble_eq_true rfl) (fun K B hR => ?_)
  rw [fX1_faultOfOrder] at h
  show Wx K cx 4 w.length 0 [(0, .ref a0), (1, .int i1)] [] w
  rcases xite h with ⟨hc, h⟩ | ⟨hc, h⟩
  · skip
    refine x_aload_n (pc := 0) B 0 dX1_faultOfOrder_0 rfl rfl ?_
    refine x_iload_n (pc := 1) B 1 dX1_faultOfOrder_1 rfl rfl ?_
    obtain ⟨q1, hq, h⟩ := xbind h
    refine x_callV1 (st := []) (pc := 2) B dX1_faultOfOrder_2 (eX1_shapeOf hq) xt_489 xt_57 np_X1_shapeOf hy_X1_shapeOf (Nat.le_of_ble_eq_true rfl) (Nat.le_of_ble_eq_true rfl) (Nat.le_of_ble_eq_true rfl) xt_488 xt_11 xt_486 rfl (iX1_shapeOf hq) rfl ?_
    refine x_astore_n (L1 := [(2, .ref q1.1), (0, .ref a0), (1, .int i1)]) (pc := 5) B dX1_faultOfOrder_5 rfl (by decide) rfl ?_
    refine x_aload_n (pc := 6) B 0 dX1_faultOfOrder_6 rfl rfl ?_
    obtain ⟨q2, hq, h⟩ := xbind h
    refine x_callVs1 (st := []) (pc := 7) B dX1_faultOfOrder_7 (eJ0_isEmpty_aae02 hq) xt_503 xt_62 np_J0_isEmpty_aae02 hy_J0_isEmpty_aae02 (Nat.le_of_ble_eq_true rfl) (Nat.le_of_ble_eq_true rfl) (Nat.le_of_ble_eq_true rfl) xt_501 xt_502 xt_500 rfl (iJ0_isEmpty_aae02 hq) rfl ?_
    rcases xite h with ⟨hc, h⟩ | ⟨hc, h⟩
    · refine x_if_eq_t (tgt := 15) (pc := 10) B dX1_faultOfOrder_10 (by decide) hc ?_
      refine x_iconst (pc := 15) B dX1_faultOfOrder_15 xk_iconst_0 ?_
      refine x_istore_n (L1 := [(3, .int (0 : Int32)), (2, .ref q1.1), (0, .ref a0), (1, .int i1)]) (pc := 16) B dX1_faultOfOrder_16 rfl (by decide) rfl ?_
      refine x_sub (L1 := [(0, .ref a0), (1, .int i1), (2, .ref q1.1), (3, .int (0 : Int32))]) [2, 3, 1, 0] rfl ?_
      exact pX1_faultOfOrder_17 B hR 1000 a0 i1 q1.1 (0 : Int32) q2.2 h
    · refine x_if_eq_f (pc := 10) B 15 dX1_faultOfOrder_10 (by decide) hc ?_
      refine x_iload_n (pc := 13) B 2 dX1_faultOfOrder_13 rfl rfl ?_
      exact x_iret (pc := 14) B hR dX1_faultOfOrder_14 (xzI _) h
  · exact absurd h (by simp)
def fX1_endOfOrder (a0 : Nat) (i1 : Int32) (w : XW) : Option (Int32 × XW) := if xis w a0 1 = true then
  (fX1_shapeOf a0 i1 w).bind fun q1 =>
  (fJ0_length_8abf5 q1.1 q1.2).bind fun q2 =>
  some (((i1 + (1 : Int32)) + q2.1), q2.2)
  else none
theorem iX1_endOfOrder {a0 : Nat} {i1 : Int32} {w : XW} {R9 : (Int32 × XW)} (h : fX1_endOfOrder a0 i1 w = some R9) : xis w a0 1 = true := by
  unfold fX1_endOfOrder at h
  rcases xite h with ⟨hc, h⟩ | ⟨hc, h⟩
  · exact hc
  · exact absurd h (by simp)
theorem np_X1_endOfOrder : (parseMethodDescriptor yX1_endOfOrder.desc).map (fun d => d.parameters.length) = some 1 := by decide +kernel
theorem hy_X1_endOfOrder : yX1_endOfOrder.cls ≠ "java/lang/invoke/MethodHandle" ∧ yX1_endOfOrder.cls ≠ "java/lang/invoke/VarHandle" := ⟨by decide +kernel, by decide +kernel⟩
set_option maxRecDepth 20000 in
theorem eX1_endOfOrder {cx : CX} {a0 : Nat} {i1 : Int32} {w : XW} {R9 : (Int32 × XW)} (h : fX1_endOfOrder a0 i1 w = some R9) : Ct yX1_endOfOrder cX1_endOfOrder 2 (some .int) 2 42 cx [.ref a0, .int i1] w (some (.int R9.1)) R9.2 := by
  refine Ct_of (by decide +kernel) (Nat.le_of_ble_eq_true rfl) (fun K B hR => ?_)
  rw [fX1_endOfOrder] at h
  show Wx K cx 2 w.length 0 [(0, .ref a0), (1, .int i1)] [] w
  rcases xite h with ⟨hc, h⟩ | ⟨hc, h⟩
  · skip
    refine x_iload_n (pc := 0) B 1 dX1_endOfOrder_0 rfl rfl ?_
    refine x_iconst (pc := 1) B dX1_endOfOrder_1 xk_iconst_1 ?_
    refine x_iadd (pc := 2) B dX1_endOfOrder_2 ?_
    refine x_aload_n (pc := 3) B 0 dX1_endOfOrder_3 rfl rfl ?_
    refine x_iload_n (pc := 4) B 1 dX1_endOfOrder_4 rfl rfl ?_
    obtain ⟨q1, hq, h⟩ := xbind h
    refine x_callV1 (st := [.int (i1 + (1 : Int32))]) (pc := 5) B dX1_endOfOrder_5 (eX1_shapeOf hq) xt_489 xt_57 np_X1_shapeOf hy_X1_shapeOf (Nat.le_of_ble_eq_true rfl) (Nat.le_of_ble_eq_true rfl) (Nat.le_of_ble_eq_true rfl) xt_488 xt_11 xt_486 rfl (iX1_shapeOf hq) rfl ?_
    obtain ⟨q2, hq, h⟩ := xbind h
    refine x_callVs1 (st := [.int (i1 + (1 : Int32))]) (pc := 8) B dX1_endOfOrder_8 (eJ0_length_8abf5 hq) xt_507 xt_62 np_J0_length_8abf5 hy_J0_length_8abf5 (Nat.le_of_ble_eq_true rfl) (Nat.le_of_ble_eq_true rfl) (Nat.le_of_ble_eq_true rfl) xt_505 xt_506 xt_504 rfl (iJ0_length_8abf5 hq) rfl ?_
    refine x_iadd (pc := 11) B dX1_endOfOrder_11 ?_
    exact x_iret (pc := 12) B hR dX1_endOfOrder_12 (xzI _) h
  · exact absurd h (by simp)
def fX1_faultPlace_4 : Nat → Nat → Int32 → Int32 → XW → Option (Int32 × XW)
  | 0, _, _, _, _ => none
  | g + 1, a0, i1, i2, w =>
    if (80 : Int32) ≤ i2 then
      (xgI w a0 1 1).bind fun v1 =>
      some (v1, w)
    else
    (fX1_faultOfOrder a0 i1 w).bind fun q2 =>
    (fX1_endOfOrder a0 i1 q2.2).bind fun q3 =>
    if q2.1 = (-6 : Int32) then
      (fX1_signAt a0 q3.1 q3.2).bind fun q4 =>
      if q4.1 = (0 : Int32) then
        some ((-6 : Int32), q4.2)
      else
      (fX1_signAt a0 q3.1 q4.2).bind fun q5 =>
      if q5.1 = (59 : Int32) then
        fX1_faultPlace_4 g a0 (q3.1 + (1 : Int32)) (i2 + (1 : Int32)) q5.2
      else
      some (q3.1, q5.2)
    else
    some (q2.1, q3.2)
set_option maxRecDepth 20000 in
theorem pX1_faultPlace_4 {K : KX} {cx : CX} {nn : Nat} {R9 : Int32 × XW} (B : XB K cx RX1 cX1_faultPlace 5 nn 6 129) (hR : XR K cx nn (some .int) (some (.int R9.1)) R9.2) : ∀ (g : Nat) (a0 : Nat) (i1 : Int32) (i2 : Int32) (w : XW), fX1_faultPlace_4 g a0 i1 i2 w = some R9 → Wx K cx 5 nn 4 [(0, .ref a0), (1, .int i1), (2, .int i2)] [] w := by
  intro g
  induction g with
  | zero =>
    intro a0 i1 i2 w h
    exact absurd (show (none : Option (Int32 × XW)) = some R9 from h) (by simp)
  | succ g ih =>
    intro a0 i1 i2 w h
    rw [fX1_faultPlace_4] at h
    refine x_iload_n (pc := 4) B 2 dX1_faultPlace_4 rfl rfl ?_
    refine x_bipush (pc := 5) B dX1_faultPlace_5 xk_bipush_80 ?_
    rcases xite h with ⟨hc, h⟩ | ⟨hc, h⟩
    · refine x_icmp_ge_t (tgt := 68) (pc := 7) B dX1_faultPlace_7 (by decide) hc ?_
      refine x_aload_n (pc := 68) B 0 dX1_faultPlace_68 rfl rfl ?_
      obtain ⟨v1, hv, h⟩ := xbind h
      refine x_getI (k0 := 1) (pc := 69) B dX1_faultPlace_69 rfl xi_1 (by decide) ⟨rfl, rfl, rfl⟩ xt_114 hv ?_
      exact x_iret (pc := 72) B hR dX1_faultPlace_72 (xzI _) h
    · refine x_icmp_ge_f (pc := 7) B 68 dX1_faultPlace_7 (by decide) hc ?_
      refine x_aload_n (pc := 10) B 0 dX1_faultPlace_10 rfl rfl ?_
      refine x_iload_n (pc := 11) B 1 dX1_faultPlace_11 rfl rfl ?_
      obtain ⟨q2, hq, h⟩ := xbind h
      refine x_callV1 (st := []) (pc := 12) B dX1_faultPlace_12 (eX1_faultOfOrder hq) xt_485 xt_57 np_X1_faultOfOrder hy_X1_faultOfOrder (Nat.le_of_ble_eq_true rfl) (Nat.le_of_ble_eq_true rfl) (Nat.le_of_ble_eq_true rfl) xt_484 xt_10 xt_482 rfl (iX1_faultOfOrder hq) rfl ?_
      refine x_istore_n (L1 := [(3, .int q2.1), (0, .ref a0), (1, .int i1), (2, .int i2)]) (pc := 15) B dX1_faultPlace_15 rfl (by decide) rfl ?_
      refine x_aload_n (pc := 16) B 1 dX1_faultPlace_16 rfl rfl ?_
      refine x_iload_n (pc := 17) B 2 dX1_faultPlace_17 rfl rfl ?_
      obtain ⟨q3, hq, h⟩ := xbind h
      refine x_callV1 (st := []) (pc := 18) B dX1_faultPlace_18 (eX1_endOfOrder hq) xt_558 xt_57 np_X1_endOfOrder hy_X1_endOfOrder (Nat.le_of_ble_eq_true rfl) (Nat.le_of_ble_eq_true rfl) (Nat.le_of_ble_eq_true rfl) xt_556 xt_557 xt_555 rfl (iX1_endOfOrder hq) rfl ?_
      refine x_istore (L1 := [(4, .int q3.1), (3, .int q2.1), (0, .ref a0), (1, .int i1), (2, .int i2)]) (pc := 21) B dX1_faultPlace_21 (by decide) rfl ?_
      refine x_iload_n (pc := 23) B 1 dX1_faultPlace_23 rfl rfl ?_
      refine x_bipush (pc := 24) B dX1_faultPlace_24 xk_bipush_m6 ?_
      rcases xite h with ⟨hc, h⟩ | ⟨hc, h⟩
      · refine x_icmp_eq_t (tgt := 31) (pc := 26) B dX1_faultPlace_26 (by decide) hc ?_
        refine x_aload_n (pc := 31) B 2 dX1_faultPlace_31 rfl rfl ?_
        refine x_iload (pc := 32) B 0 dX1_faultPlace_32 rfl ?_
        obtain ⟨q4, hq, h⟩ := xbind h
        refine x_callV1 (st := []) (pc := 34) B dX1_faultPlace_34 (eX1_signAt hq) xt_493 xt_57 np_X1_signAt hy_X1_signAt (Nat.le_of_ble_eq_true rfl) (Nat.le_of_ble_eq_true rfl) (Nat.le_of_ble_eq_true rfl) xt_491 xt_492 xt_490 rfl (iX1_signAt hq) rfl ?_
        rcases xite h with ⟨hc, h⟩ | ⟨hc, h⟩
        · refine x_if_ne_f (pc := 37) B 43 dX1_faultPlace_37 (by decide) hc ?_
          refine x_bipush (pc := 40) B dX1_faultPlace_40 xk_bipush_m6 ?_
          exact x_iret (pc := 42) B hR dX1_faultPlace_42 (xzI _) h
        · refine x_if_ne_t (tgt := 43) (pc := 37) B dX1_faultPlace_37 (by decide) hc ?_
          refine x_aload_n (pc := 43) B 2 dX1_faultPlace_43 rfl rfl ?_
          refine x_iload (pc := 44) B 0 dX1_faultPlace_44 rfl ?_
          obtain ⟨q5, hq, h⟩ := xbind h
          refine x_callV1 (st := []) (pc := 46) B dX1_faultPlace_46 (eX1_signAt hq) xt_493 xt_57 np_X1_signAt hy_X1_signAt (Nat.le_of_ble_eq_true rfl) (Nat.le_of_ble_eq_true rfl) (Nat.le_of_ble_eq_true rfl) xt_491 xt_492 xt_490 rfl (iX1_signAt hq) rfl ?_
          refine x_bipush (pc := 49) B dX1_faultPlace_49 xk_bipush_59 ?_
          rcases xite h with ⟨hc, h⟩ | ⟨hc, h⟩
          · refine x_icmp_eq_t (tgt := 57) (pc := 51) B dX1_faultPlace_51 (by decide) hc ?_
            refine x_iload (pc := 57) B 0 dX1_faultPlace_57 rfl ?_
            refine x_iconst (pc := 59) B dX1_faultPlace_59 xk_iconst_1 ?_
            refine x_iadd (pc := 60) B dX1_faultPlace_60 ?_
            refine x_istore_n (L1 := [(1, .int (q3.1 + (1 : Int32))), (4, .int q3.1), (3, .int q2.1), (0, .ref a0), (2, .int i2)]) (pc := 61) B dX1_faultPlace_61 rfl (by decide) rfl ?_
            refine x_iinc (L1 := [(2, .int (i2 + (1 : Int32))), (1, .int (q3.1 + (1 : Int32))), (4, .int q3.1), (3, .int q2.1), (0, .ref a0)]) (pc := 62) B 4 dX1_faultPlace_62 rfl (congrArg _ xk_iconst_1) (by decide) rfl ?_
            refine x_goto (tgt := 4) (pc := 65) B dX1_faultPlace_65 (by decide) ?_
            refine x_sub (L1 := [(0, .ref a0), (1, .int (q3.1 + (1 : Int32))), (2, .int (i2 + (1 : Int32)))]) [4, 1, 0] rfl ?_
            exact ih a0 (q3.1 + (1 : Int32)) (i2 + (1 : Int32)) q5.2 h
          · refine x_icmp_eq_f (pc := 51) B 57 dX1_faultPlace_51 (by decide) hc ?_
            refine x_iload (pc := 54) B 0 dX1_faultPlace_54 rfl ?_
            exact x_iret (pc := 56) B hR dX1_faultPlace_56 (xzI _) h
      · refine x_icmp_eq_f (pc := 26) B 31 dX1_faultPlace_26 (by decide) hc ?_
        refine x_iload_n (pc := 29) B 1 dX1_faultPlace_29 rfl rfl ?_
        exact x_iret (pc := 30) B hR dX1_faultPlace_30 (xzI _) h
def fX1_faultPlace (a0 : Nat) (w : XW) : Option (Int32 × XW) := if xis w a0 1 = true then
  fX1_faultPlace_4 1000 a0 (0 : Int32) (0 : Int32) w
  else none
theorem iX1_faultPlace {a0 : Nat} {w : XW} {R9 : (Int32 × XW)} (h : fX1_faultPlace a0 w = some R9) : xis w a0 1 = true := by
  unfold fX1_faultPlace at h
  rcases xite h with ⟨hc, h⟩ | ⟨hc, h⟩
  · exact hc
  · exact absurd h (by simp)
theorem np_X1_faultPlace : (parseMethodDescriptor yX1_faultPlace.desc).map (fun d => d.parameters.length) = some 0 := by decide +kernel
theorem hy_X1_faultPlace : yX1_faultPlace.cls ≠ "java/lang/invoke/MethodHandle" ∧ yX1_faultPlace.cls ≠ "java/lang/invoke/VarHandle" := ⟨by decide +kernel, by decide +kernel⟩
set_option maxRecDepth 20000 in
theorem eX1_faultPlace {cx : CX} {a0 : Nat} {w : XW} {R9 : (Int32 × XW)} (h : fX1_faultPlace a0 w = some R9) : Ct yX1_faultPlace cX1_faultPlace 5 (some .int) 6 129 cx [.ref a0] w (some (.int R9.1)) R9.2 := by
  refine Ct_of (by decide +kernel) (Nat.le_of_ble_eq_true rfl) (fun K B hR => ?_)
  rw [fX1_faultPlace] at h
  show Wx K cx 5 w.length 0 [(0, .ref a0)] [] w
  rcases xite h with ⟨hc, h⟩ | ⟨hc, h⟩
  · skip
    refine x_iconst (pc := 0) B dX1_faultPlace_0 xk_iconst_0 ?_
    refine x_istore_n (L1 := [(1, .int (0 : Int32)), (0, .ref a0)]) (pc := 1) B dX1_faultPlace_1 rfl (by decide) rfl ?_
    refine x_iconst (pc := 2) B dX1_faultPlace_2 xk_iconst_0 ?_
    refine x_istore_n (L1 := [(2, .int (0 : Int32)), (1, .int (0 : Int32)), (0, .ref a0)]) (pc := 3) B dX1_faultPlace_3 rfl (by decide) rfl ?_
    refine x_sub (L1 := [(0, .ref a0), (1, .int (0 : Int32)), (2, .int (0 : Int32))]) [2, 1, 0] rfl ?_
    exact pX1_faultPlace_4 B hR 1000 a0 (0 : Int32) (0 : Int32) w h
  · exact absurd h (by simp)
def fX1_digitAt (a0 : Nat) (i1 : Int32) (w : XW) : Option (Int32 × XW) := if xis w a0 1 = true then
  (fX1_signAt a0 i1 w).bind fun q1 =>
  if q1.1 < (48 : Int32) then
    some ((0 : Int32), q1.2)
  else
  if (57 : Int32) < q1.1 then
    some ((0 : Int32), q1.2)
  else
  some ((q1.1 - (48 : Int32)), q1.2)
  else none
theorem iX1_digitAt {a0 : Nat} {i1 : Int32} {w : XW} {R9 : (Int32 × XW)} (h : fX1_digitAt a0 i1 w = some R9) : xis w a0 1 = true := by
  unfold fX1_digitAt at h
  rcases xite h with ⟨hc, h⟩ | ⟨hc, h⟩
  · exact hc
  · exact absurd h (by simp)
theorem np_X1_digitAt : (parseMethodDescriptor yX1_digitAt.desc).map (fun d => d.parameters.length) = some 1 := by decide +kernel
theorem hy_X1_digitAt : yX1_digitAt.cls ≠ "java/lang/invoke/MethodHandle" ∧ yX1_digitAt.cls ≠ "java/lang/invoke/VarHandle" := ⟨by decide +kernel, by decide +kernel⟩
set_option maxRecDepth 20000 in
theorem eX1_digitAt {cx : CX} {a0 : Nat} {i1 : Int32} {w : XW} {R9 : (Int32 × XW)} (h : fX1_digitAt a0 i1 w = some R9) : Ct yX1_digitAt cX1_digitAt 3 (some .int) 1 21 cx [.ref a0, .int i1] w (some (.int R9.1)) R9.2 := by
  refine Ct_of (by decide +kernel) (Nat.le_of_ble_eq_true rfl) (fun K B hR => ?_)
  rw [fX1_digitAt] at h
  show Wx K cx 3 w.length 0 [(0, .ref a0), (1, .int i1)] [] w
  rcases xite h with ⟨hc, h⟩ | ⟨hc, h⟩
  · skip
    refine x_aload_n (pc := 0) B 0 dX1_digitAt_0 rfl rfl ?_
    refine x_iload_n (pc := 1) B 1 dX1_digitAt_1 rfl rfl ?_
    obtain ⟨q1, hq, h⟩ := xbind h
    refine x_callV1 (st := []) (pc := 2) B dX1_digitAt_2 (eX1_signAt hq) xt_493 xt_57 np_X1_signAt hy_X1_signAt (Nat.le_of_ble_eq_true rfl) (Nat.le_of_ble_eq_true rfl) (Nat.le_of_ble_eq_true rfl) xt_491 xt_492 xt_490 rfl (iX1_signAt hq) rfl ?_
    refine x_istore_n (L1 := [(2, .int q1.1), (0, .ref a0), (1, .int i1)]) (pc := 5) B dX1_digitAt_5 rfl (by decide) rfl ?_
    refine x_iload_n (pc := 6) B 0 dX1_digitAt_6 rfl rfl ?_
    refine x_bipush (pc := 7) B dX1_digitAt_7 xk_bipush_48 ?_
    rcases xite h with ⟨hc, h⟩ | ⟨hc, h⟩
    · refine x_icmp_lt_t (tgt := 25) (pc := 9) B dX1_digitAt_9 (by decide) hc ?_
      refine x_iconst (pc := 25) B dX1_digitAt_25 xk_iconst_0 ?_
      exact x_iret (pc := 26) B hR dX1_digitAt_26 (xzI _) h
    · refine x_icmp_lt_f (pc := 9) B 25 dX1_digitAt_9 (by decide) hc ?_
      refine x_iload_n (pc := 12) B 0 dX1_digitAt_12 rfl rfl ?_
      refine x_bipush (pc := 13) B dX1_digitAt_13 xk_bipush_57 ?_
      rcases xite h with ⟨hc, h⟩ | ⟨hc, h⟩
      · refine x_icmp_gt_t (tgt := 25) (pc := 15) B dX1_digitAt_15 (by decide) hc ?_
        refine x_iconst (pc := 25) B dX1_digitAt_25 xk_iconst_0 ?_
        exact x_iret (pc := 26) B hR dX1_digitAt_26 (xzI _) h
      · refine x_icmp_gt_f (pc := 15) B 25 dX1_digitAt_15 (by decide) hc ?_
        refine x_iload_n (pc := 18) B 0 dX1_digitAt_18 rfl rfl ?_
        refine x_bipush (pc := 19) B dX1_digitAt_19 xk_bipush_48 ?_
        refine x_isub (pc := 21) B dX1_digitAt_21 ?_
        refine x_goto (tgt := 26) (pc := 22) B dX1_digitAt_22 (by decide) ?_
        exact x_iret (pc := 26) B hR dX1_digitAt_26 (xzI _) h
  · exact absurd h (by simp)
def fX1_lastNumberOf (a0 : Nat) (i1 : Int32) (w : XW) : Option (Int32 × XW) := if xis w a0 1 = true then
  (fX1_endOfOrder a0 i1 w).bind fun q1 =>
  (fX1_digitAt a0 (q1.1 - (1 : Int32)) q1.2).bind fun q2 =>
  (fX1_signAt a0 (q1.1 - (2 : Int32)) q2.2).bind fun q3 =>
  if q3.1 = (45 : Int32) then
    some ((-q2.1), q3.2)
  else
  some (q2.1, q3.2)
  else none
theorem iX1_lastNumberOf {a0 : Nat} {i1 : Int32} {w : XW} {R9 : (Int32 × XW)} (h : fX1_lastNumberOf a0 i1 w = some R9) : xis w a0 1 = true := by
  unfold fX1_lastNumberOf at h
  rcases xite h with ⟨hc, h⟩ | ⟨hc, h⟩
  · exact hc
  · exact absurd h (by simp)
theorem np_X1_lastNumberOf : (parseMethodDescriptor yX1_lastNumberOf.desc).map (fun d => d.parameters.length) = some 1 := by decide +kernel
theorem hy_X1_lastNumberOf : yX1_lastNumberOf.cls ≠ "java/lang/invoke/MethodHandle" ∧ yX1_lastNumberOf.cls ≠ "java/lang/invoke/VarHandle" := ⟨by decide +kernel, by decide +kernel⟩
set_option maxRecDepth 20000 in
theorem eX1_lastNumberOf {cx : CX} {a0 : Nat} {i1 : Int32} {w : XW} {R9 : (Int32 × XW)} (h : fX1_lastNumberOf a0 i1 w = some R9) : Ct yX1_lastNumberOf cX1_lastNumberOf 4 (some .int) 3 63 cx [.ref a0, .int i1] w (some (.int R9.1)) R9.2 := by
  refine Ct_of (by decide +kernel) (Nat.le_of_ble_eq_true rfl) (fun K B hR => ?_)
  rw [fX1_lastNumberOf] at h
  show Wx K cx 4 w.length 0 [(0, .ref a0), (1, .int i1)] [] w
  rcases xite h with ⟨hc, h⟩ | ⟨hc, h⟩
  · skip
    refine x_aload_n (pc := 0) B 0 dX1_lastNumberOf_0 rfl rfl ?_
    refine x_iload_n (pc := 1) B 1 dX1_lastNumberOf_1 rfl rfl ?_
    obtain ⟨q1, hq, h⟩ := xbind h
    refine x_callV1 (st := []) (pc := 2) B dX1_lastNumberOf_2 (eX1_endOfOrder hq) xt_558 xt_57 np_X1_endOfOrder hy_X1_endOfOrder (Nat.le_of_ble_eq_true rfl) (Nat.le_of_ble_eq_true rfl) (Nat.le_of_ble_eq_true rfl) xt_556 xt_557 xt_555 rfl (iX1_endOfOrder hq) rfl ?_
    refine x_istore_n (L1 := [(2, .int q1.1), (0, .ref a0), (1, .int i1)]) (pc := 5) B dX1_lastNumberOf_5 rfl (by decide) rfl ?_
    refine x_aload_n (pc := 6) B 1 dX1_lastNumberOf_6 rfl rfl ?_
    refine x_iload_n (pc := 7) B 0 dX1_lastNumberOf_7 rfl rfl ?_
    refine x_iconst (pc := 8) B dX1_lastNumberOf_8 xk_iconst_1 ?_
    refine x_isub (pc := 9) B dX1_lastNumberOf_9 ?_
    obtain ⟨q2, hq, h⟩ := xbind h
    refine x_callV1 (st := []) (pc := 10) B dX1_lastNumberOf_10 (eX1_digitAt hq) xt_571 xt_57 np_X1_digitAt hy_X1_digitAt (Nat.le_of_ble_eq_true rfl) (Nat.le_of_ble_eq_true rfl) (Nat.le_of_ble_eq_true rfl) xt_569 xt_570 xt_576 rfl (iX1_digitAt hq) rfl ?_
    refine x_istore_n (L1 := [(3, .int q2.1), (2, .int q1.1), (0, .ref a0), (1, .int i1)]) (pc := 13) B dX1_lastNumberOf_13 rfl (by decide) rfl ?_
    refine x_aload_n (pc := 14) B 2 dX1_lastNumberOf_14 rfl rfl ?_
    refine x_iload_n (pc := 15) B 1 dX1_lastNumberOf_15 rfl rfl ?_
    refine x_iconst (pc := 16) B dX1_lastNumberOf_16 xk_iconst_2 ?_
    refine x_isub (pc := 17) B dX1_lastNumberOf_17 ?_
    obtain ⟨q3, hq, h⟩ := xbind h
    refine x_callV1 (st := []) (pc := 18) B dX1_lastNumberOf_18 (eX1_signAt hq) xt_493 xt_57 np_X1_signAt hy_X1_signAt (Nat.le_of_ble_eq_true rfl) (Nat.le_of_ble_eq_true rfl) (Nat.le_of_ble_eq_true rfl) xt_491 xt_492 xt_490 rfl (iX1_signAt hq) rfl ?_
    refine x_bipush (pc := 21) B dX1_lastNumberOf_21 xk_bipush_45 ?_
    rcases xite h with ⟨hc, h⟩ | ⟨hc, h⟩
    · refine x_icmp_ne_f (pc := 23) B 31 dX1_lastNumberOf_23 (by decide) hc ?_
      refine x_iload_n (pc := 26) B 0 dX1_lastNumberOf_26 rfl rfl ?_
      refine x_ineg (pc := 27) B dX1_lastNumberOf_27 ?_
      refine x_goto (tgt := 32) (pc := 28) B dX1_lastNumberOf_28 (by decide) ?_
      exact x_iret (pc := 32) B hR dX1_lastNumberOf_32 (xzI _) h
    · refine x_icmp_ne_t (tgt := 31) (pc := 23) B dX1_lastNumberOf_23 (by decide) hc ?_
      refine x_iload_n (pc := 31) B 0 dX1_lastNumberOf_31 rfl rfl ?_
      exact x_iret (pc := 32) B hR dX1_lastNumberOf_32 (xzI _) h
  · exact absurd h (by simp)
