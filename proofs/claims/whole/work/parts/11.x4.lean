def fX4_lays_3 : Nat → Nat → Int32 → Nat → Int32 → Int32 → XW → Option XW
  | 0, _, _, _, _, _, _ => none
  | g + 1, a0, i1, a2, i3, i4, w =>
    if (72 : Int32) ≤ i4 then
      some w
    else
    (xaI w a0 (i1 + i4)).bind fun v1 =>
    (xsI w a2 (i3 + i4) v1).bind fun w2 =>
    fX4_lays_3 g a0 i1 a2 i3 (i4 + (1 : Int32)) w2
set_option maxRecDepth 20000 in
theorem pX4_lays_3 {K : KX} {cx : CX} {nn : Nat} {R9 : XW} (B : XB K cx RX4 cX4_lays 5 nn 0 0) (hR : XR K cx nn none none R9) : ∀ (g : Nat) (a0 : Nat) (i1 : Int32) (a2 : Nat) (i3 : Int32) (i4 : Int32) (w : XW), fX4_lays_3 g a0 i1 a2 i3 i4 w = some R9 → Wx K cx 5 nn 3 [(0, .ref a0), (1, .int i1), (2, .ref a2), (3, .int i3), (4, .int i4)] [] w := by
  intro g
  induction g with
  | zero =>
    intro a0 i1 a2 i3 i4 w h
    exact absurd (show (none : Option XW) = some R9 from h) (by simp)
  | succ g ih =>
    intro a0 i1 a2 i3 i4 w h
    rw [fX4_lays_3] at h
    refine x_iload (pc := 3) B 4 dX4_lays_3 rfl ?_
    refine x_bipush (pc := 5) B dX4_lays_5 xk_bipush_72 ?_
    rcases xite h with ⟨hc, h⟩ | ⟨hc, h⟩
    · refine x_icmp_ge_t (tgt := 28) (pc := 7) B dX4_lays_7 (by decide) hc ?_
      exact x_vret (pc := 28) B hR dX4_lays_28 h
    · refine x_icmp_ge_f (pc := 7) B 28 dX4_lays_7 (by decide) hc ?_
      refine x_aload_n (pc := 10) B 2 dX4_lays_10 rfl rfl ?_
      refine x_iload_n (pc := 11) B 3 dX4_lays_11 rfl rfl ?_
      refine x_iload (pc := 12) B 4 dX4_lays_12 rfl ?_
      refine x_iadd (pc := 14) B dX4_lays_14 ?_
      refine x_aload_n (pc := 15) B 0 dX4_lays_15 rfl rfl ?_
      refine x_iload_n (pc := 16) B 1 dX4_lays_16 rfl rfl ?_
      refine x_iload (pc := 17) B 4 dX4_lays_17 rfl ?_
      refine x_iadd (pc := 19) B dX4_lays_19 ?_
      obtain ⟨v1, hv, h⟩ := xbind h
      refine x_iald (pc := 20) B dX4_lays_20 hv ?_
      obtain ⟨w2, hv, h⟩ := xbind h
      refine x_iast (pc := 21) B dX4_lays_21 hv ?_
      refine x_iinc (L1 := [(4, .int (i4 + (1 : Int32))), (0, .ref a0), (1, .int i1), (2, .ref a2), (3, .int i3)]) (pc := 22) B 4 dX4_lays_22 rfl (congrArg _ xk_iconst_1) (by decide) rfl ?_
      refine x_goto (tgt := 3) (pc := 25) B dX4_lays_25 (by decide) ?_
      refine x_sub (L1 := [(0, .ref a0), (1, .int i1), (2, .ref a2), (3, .int i3), (4, .int (i4 + (1 : Int32)))]) [1, 2, 3, 4, 0] rfl ?_
      exact ih a0 i1 a2 i3 (i4 + (1 : Int32)) w2 h
def fX4_lays (a0 : Nat) (i1 : Int32) (a2 : Nat) (i3 : Int32) (w : XW) : Option XW :=
  fX4_lays_3 1000 a0 i1 a2 i3 (0 : Int32) w
theorem np_X4_lays : (parseMethodDescriptor yX4_lays.desc).map (fun d => d.parameters.length) = some 4 := by decide +kernel
theorem hy_X4_lays : yX4_lays.cls ≠ "java/lang/invoke/MethodHandle" ∧ yX4_lays.cls ≠ "java/lang/invoke/VarHandle" := ⟨by decide +kernel, by decide +kernel⟩
set_option maxRecDepth 20000 in
theorem eX4_lays {cx : CX} {a0 : Nat} {i1 : Int32} {a2 : Nat} {i3 : Int32} {w : XW} {R9 : XW} (h : fX4_lays a0 i1 a2 i3 w = some R9) : Ct yX4_lays cX4_lays 5 none 0 0 cx [.ref a0, .int i1, .ref a2, .int i3] w none R9 := by
  refine Ct_of (by decide +kernel) (Nat.le_of_ble_eq_true rfl) (fun K B hR => ?_)
  rw [fX4_lays] at h
  show Wx K cx 5 w.length 0 [(0, .ref a0), (1, .int i1), (2, .ref a2), (3, .int i3)] [] w
  refine x_iconst (pc := 0) B dX4_lays_0 xk_iconst_0 ?_
  refine x_istore (L1 := [(4, .int (0 : Int32)), (0, .ref a0), (1, .int i1), (2, .ref a2), (3, .int i3)]) (pc := 1) B dX4_lays_1 (by decide) rfl ?_
  refine x_sub (L1 := [(0, .ref a0), (1, .int i1), (2, .ref a2), (3, .int i3), (4, .int (0 : Int32))]) [1, 2, 3, 4, 0] rfl ?_
  exact pX4_lays_3 B hR 1000 a0 i1 a2 i3 (0 : Int32) w h
def fX4_undo (a0 : Nat) (w : XW) : Option (Int32 × XW) := if xis w a0 4 = true then
  (xgI w a0 4 2).bind fun v1 =>
  if v1 = (0 : Int32) then
    some ((-5 : Int32), w)
  else
  (xgI w a0 4 2).bind fun v2 =>
  (xpI w a0 4 2 (v2 - (1 : Int32))).bind fun w3 =>
  (xgR w3 a0 4 1).bind fun v4 =>
  (xgI w3 a0 4 2).bind fun v5 =>
  (xgR w3 a0 4 0).bind fun v6 =>
  (fX4_lays v4 ((72 : Int32) * v5) v6 (0 : Int32) w3).bind fun q7 =>
  (xgI q7 a0 4 2).bind fun v8 =>
  some (v8, q7)
  else none
theorem iX4_undo {a0 : Nat} {w : XW} {R9 : (Int32 × XW)} (h : fX4_undo a0 w = some R9) : xis w a0 4 = true := by
  unfold fX4_undo at h
  rcases xite h with ⟨hc, h⟩ | ⟨hc, h⟩
  · exact hc
  · exact absurd h (by simp)
theorem np_X4_undo : (parseMethodDescriptor yX4_undo.desc).map (fun d => d.parameters.length) = some 0 := by decide +kernel
theorem hy_X4_undo : yX4_undo.cls ≠ "java/lang/invoke/MethodHandle" ∧ yX4_undo.cls ≠ "java/lang/invoke/VarHandle" := ⟨by decide +kernel, by decide +kernel⟩
set_option maxRecDepth 20000 in
theorem eX4_undo {cx : CX} {a0 : Nat} {w : XW} {R9 : (Int32 × XW)} (h : fX4_undo a0 w = some R9) : Ct yX4_undo cX4_undo 1 (some .int) 1 24 cx [.ref a0] w (some (.int R9.1)) R9.2 := by
  refine Ct_of (by decide +kernel) (Nat.le_of_ble_eq_true rfl) (fun K B hR => ?_)
  rw [fX4_undo] at h
  show Wx K cx 1 w.length 0 [(0, .ref a0)] [] w
  rcases xite h with ⟨hc, h⟩ | ⟨hc, h⟩
  · skip
    refine x_aload_n (pc := 0) B 0 dX4_undo_0 rfl rfl ?_
    obtain ⟨v1, hv, h⟩ := xbind h
    refine x_getI (k0 := 2) (pc := 1) B dX4_undo_1 rfl xi_4 (by decide) ⟨rfl, rfl, rfl⟩ xt_604 hv ?_
    rcases xite h with ⟨hc, h⟩ | ⟨hc, h⟩
    · refine x_if_ne_f (pc := 4) B 10 dX4_undo_4 (by decide) hc ?_
      refine x_bipush (pc := 7) B dX4_undo_7 xk_bipush_m5 ?_
      exact x_iret (pc := 9) B hR dX4_undo_9 (xzI _) h
    · refine x_if_ne_t (tgt := 10) (pc := 4) B dX4_undo_4 (by decide) hc ?_
      refine x_aload_n (pc := 10) B 0 dX4_undo_10 rfl rfl ?_
      refine x_dup (pc := 11) B dX4_undo_11 rfl ?_
      obtain ⟨v2, hv, h⟩ := xbind h
      refine x_getI (k0 := 2) (pc := 12) B dX4_undo_12 rfl xi_4 (by decide) ⟨rfl, rfl, rfl⟩ xt_604 hv ?_
      refine x_iconst (pc := 15) B dX4_undo_15 xk_iconst_1 ?_
      refine x_isub (pc := 16) B dX4_undo_16 ?_
      obtain ⟨w3, hv, h⟩ := xbind h
      refine x_putI (k0 := 2) (pc := 17) B dX4_undo_17 rfl xi_4 (by decide) ⟨rfl, rfl, rfl⟩ xt_604 tyX4_ok nmX4 rfl xpdI hv ?_
      refine x_aload_n (pc := 20) B 0 dX4_undo_20 rfl rfl ?_
      obtain ⟨v4, hv, h⟩ := xbind h
      refine x_getR (k0 := 1) (pc := 21) B dX4_undo_21 rfl xi_4 (by decide) ⟨rfl, rfl, rfl⟩ xt_603 hv ?_
      refine x_bipush (pc := 24) B dX4_undo_24 xk_bipush_72 ?_
      refine x_aload_n (pc := 26) B 0 dX4_undo_26 rfl rfl ?_
      obtain ⟨v5, hv, h⟩ := xbind h
      refine x_getI (k0 := 2) (pc := 27) B dX4_undo_27 rfl xi_4 (by decide) ⟨rfl, rfl, rfl⟩ xt_604 hv ?_
      refine x_imul (pc := 30) B dX4_undo_30 ?_
      refine x_aload_n (pc := 31) B 0 dX4_undo_31 rfl rfl ?_
      obtain ⟨v6, hv, h⟩ := xbind h
      refine x_getR (k0 := 0) (pc := 32) B dX4_undo_32 rfl xi_4 (by decide) ⟨rfl, rfl, rfl⟩ xt_602 hv ?_
      refine x_iconst (pc := 35) B dX4_undo_35 xk_iconst_0 ?_
      obtain ⟨q7, hq, h⟩ := xbind h
      refine x_callS0 (st := []) (pc := 36) B dX4_undo_36 (eX4_lays hq) xt_632 xt_58 np_X4_lays hy_X4_lays (Nat.le_of_ble_eq_true rfl) (Nat.le_of_ble_eq_true rfl) (Nat.le_of_ble_eq_true rfl) xt_631 xt_630 rfl ?_
      refine x_aload_n (pc := 39) B 0 dX4_undo_39 rfl rfl ?_
      obtain ⟨v8, hv, h⟩ := xbind h
      refine x_getI (k0 := 2) (pc := 40) B dX4_undo_40 rfl xi_4 (by decide) ⟨rfl, rfl, rfl⟩ xt_604 hv ?_
      exact x_iret (pc := 43) B hR dX4_undo_43 (xzI _) h
  · exact absurd h (by simp)
def fX4_in (i0 : Int32) (i1 : Int32) (i2 : Int32) (w : XW) : Option (Int32 × XW) :=
  if i0 < i1 then
    some ((0 : Int32), w)
  else
  if i2 < i0 then
    some ((0 : Int32), w)
  else
  some ((1 : Int32), w)
theorem np_X4_in : (parseMethodDescriptor yX4_in.desc).map (fun d => d.parameters.length) = some 3 := by decide +kernel
theorem hy_X4_in : yX4_in.cls ≠ "java/lang/invoke/MethodHandle" ∧ yX4_in.cls ≠ "java/lang/invoke/VarHandle" := ⟨by decide +kernel, by decide +kernel⟩
set_option maxRecDepth 20000 in
theorem eX4_in {cx : CX} {i0 : Int32} {i1 : Int32} {i2 : Int32} {w : XW} {R9 : (Int32 × XW)} (h : fX4_in i0 i1 i2 w = some R9) : Ct yX4_in cX4_in 3 (some .boolean) 0 0 cx [.int i0, .int i1, .int i2] w (some (.int R9.1)) R9.2 := by
  refine Ct_of (by decide +kernel) (Nat.le_of_ble_eq_true rfl) (fun K B hR => ?_)
  rw [fX4_in] at h
  show Wx K cx 3 w.length 0 [(0, .int i0), (1, .int i1), (2, .int i2)] [] w
  refine x_iload_n (pc := 0) B 0 dX4_in_0 rfl rfl ?_
  refine x_iload_n (pc := 1) B 1 dX4_in_1 rfl rfl ?_
  rcases xite h with ⟨hc, h⟩ | ⟨hc, h⟩
  · refine x_icmp_lt_t (tgt := 14) (pc := 2) B dX4_in_2 (by decide) hc ?_
    refine x_iconst (pc := 14) B dX4_in_14 xk_iconst_0 ?_
    exact x_iret (pc := 15) B hR dX4_in_15 xz0 h
  · refine x_icmp_lt_f (pc := 2) B 14 dX4_in_2 (by decide) hc ?_
    refine x_iload_n (pc := 5) B 0 dX4_in_5 rfl rfl ?_
    refine x_iload_n (pc := 6) B 2 dX4_in_6 rfl rfl ?_
    rcases xite h with ⟨hc, h⟩ | ⟨hc, h⟩
    · refine x_icmp_gt_t (tgt := 14) (pc := 7) B dX4_in_7 (by decide) hc ?_
      refine x_iconst (pc := 14) B dX4_in_14 xk_iconst_0 ?_
      exact x_iret (pc := 15) B hR dX4_in_15 xz0 h
    · refine x_icmp_gt_f (pc := 7) B 14 dX4_in_7 (by decide) hc ?_
      refine x_iconst (pc := 10) B dX4_in_10 xk_iconst_1 ?_
      refine x_goto (tgt := 15) (pc := 11) B dX4_in_11 (by decide) ?_
      exact x_iret (pc := 15) B hR dX4_in_15 xz1 h
def fX4_code_4 : Nat → Nat → Int32 → Int32 → XW → Option (Int32 × XW)
  | 0, _, _, _, _ => none
  | g + 1, a0, i1, i2, w =>
    if (6 : Int32) ≤ i2 then
      some (i1, w)
    else
    (xgR w a0 4 0).bind fun v1 =>
    (xaI w v1 ((66 : Int32) + i2)).bind fun v2 =>
    fX4_code_4 g a0 (((3 : Int32) * i1) + v2) (i2 + (1 : Int32)) w
set_option maxRecDepth 20000 in
theorem pX4_code_4 {K : KX} {cx : CX} {nn : Nat} {R9 : Int32 × XW} (B : XB K cx RX4 cX4_code 3 nn 0 0) (hR : XR K cx nn (some .int) (some (.int R9.1)) R9.2) : ∀ (g : Nat) (a0 : Nat) (i1 : Int32) (i2 : Int32) (w : XW), fX4_code_4 g a0 i1 i2 w = some R9 → Wx K cx 3 nn 4 [(0, .ref a0), (1, .int i1), (2, .int i2)] [] w := by
  intro g
  induction g with
  | zero =>
    intro a0 i1 i2 w h
    exact absurd (show (none : Option (Int32 × XW)) = some R9 from h) (by simp)
  | succ g ih =>
    intro a0 i1 i2 w h
    rw [fX4_code_4] at h
    refine x_iload_n (pc := 4) B 2 dX4_code_4 rfl rfl ?_
    refine x_bipush (pc := 5) B dX4_code_5 xk_bipush_6 ?_
    rcases xite h with ⟨hc, h⟩ | ⟨hc, h⟩
    · refine x_icmp_ge_t (tgt := 30) (pc := 7) B dX4_code_7 (by decide) hc ?_
      refine x_iload_n (pc := 30) B 1 dX4_code_30 rfl rfl ?_
      exact x_iret (pc := 31) B hR dX4_code_31 (xzI _) h
    · refine x_icmp_ge_f (pc := 7) B 30 dX4_code_7 (by decide) hc ?_
      refine x_iconst (pc := 10) B dX4_code_10 xk_iconst_3 ?_
      refine x_iload_n (pc := 11) B 1 dX4_code_11 rfl rfl ?_
      refine x_imul (pc := 12) B dX4_code_12 ?_
      refine x_aload_n (pc := 13) B 0 dX4_code_13 rfl rfl ?_
      obtain ⟨v1, hv, h⟩ := xbind h
      refine x_getR (k0 := 0) (pc := 14) B dX4_code_14 rfl xi_4 (by decide) ⟨rfl, rfl, rfl⟩ xt_602 hv ?_
      refine x_bipush (pc := 17) B dX4_code_17 xk_bipush_66 ?_
      refine x_iload_n (pc := 19) B 2 dX4_code_19 rfl rfl ?_
      refine x_iadd (pc := 20) B dX4_code_20 ?_
      obtain ⟨v2, hv, h⟩ := xbind h
      refine x_iald (pc := 21) B dX4_code_21 hv ?_
      refine x_iadd (pc := 22) B dX4_code_22 ?_
      refine x_istore_n (L1 := [(1, .int (((3 : Int32) * i1) + v2)), (0, .ref a0), (2, .int i2)]) (pc := 23) B dX4_code_23 rfl (by decide) rfl ?_
      refine x_iinc (L1 := [(2, .int (i2 + (1 : Int32))), (1, .int (((3 : Int32) * i1) + v2)), (0, .ref a0)]) (pc := 24) B 2 dX4_code_24 rfl (congrArg _ xk_iconst_1) (by decide) rfl ?_
      refine x_goto (tgt := 4) (pc := 27) B dX4_code_27 (by decide) ?_
      refine x_sub (L1 := [(0, .ref a0), (1, .int (((3 : Int32) * i1) + v2)), (2, .int (i2 + (1 : Int32)))]) [2, 1, 0] rfl ?_
      exact ih a0 (((3 : Int32) * i1) + v2) (i2 + (1 : Int32)) w h
def fX4_code (a0 : Nat) (w : XW) : Option (Int32 × XW) := if xis w a0 4 = true then
  fX4_code_4 1000 a0 (0 : Int32) (0 : Int32) w
  else none
theorem iX4_code {a0 : Nat} {w : XW} {R9 : (Int32 × XW)} (h : fX4_code a0 w = some R9) : xis w a0 4 = true := by
  unfold fX4_code at h
  rcases xite h with ⟨hc, h⟩ | ⟨hc, h⟩
  · exact hc
  · exact absurd h (by simp)
theorem np_X4_code : (parseMethodDescriptor yX4_code.desc).map (fun d => d.parameters.length) = some 0 := by decide +kernel
theorem hy_X4_code : yX4_code.cls ≠ "java/lang/invoke/MethodHandle" ∧ yX4_code.cls ≠ "java/lang/invoke/VarHandle" := ⟨by decide +kernel, by decide +kernel⟩
set_option maxRecDepth 20000 in
theorem eX4_code {cx : CX} {a0 : Nat} {w : XW} {R9 : (Int32 × XW)} (h : fX4_code a0 w = some R9) : Ct yX4_code cX4_code 3 (some .int) 0 0 cx [.ref a0] w (some (.int R9.1)) R9.2 := by
  refine Ct_of (by decide +kernel) (Nat.le_of_ble_eq_true rfl) (fun K B hR => ?_)
  rw [fX4_code] at h
  show Wx K cx 3 w.length 0 [(0, .ref a0)] [] w
  rcases xite h with ⟨hc, h⟩ | ⟨hc, h⟩
  · skip
    refine x_iconst (pc := 0) B dX4_code_0 xk_iconst_0 ?_
    refine x_istore_n (L1 := [(1, .int (0 : Int32)), (0, .ref a0)]) (pc := 1) B dX4_code_1 rfl (by decide) rfl ?_
    refine x_iconst (pc := 2) B dX4_code_2 xk_iconst_0 ?_
    refine x_istore_n (L1 := [(2, .int (0 : Int32)), (1, .int (0 : Int32)), (0, .ref a0)]) (pc := 3) B dX4_code_3 rfl (by decide) rfl ?_
    refine x_sub (L1 := [(0, .ref a0), (1, .int (0 : Int32)), (2, .int (0 : Int32))]) [2, 1, 0] rfl ?_
    exact pX4_code_4 B hR 1000 a0 (0 : Int32) (0 : Int32) w h
  · exact absurd h (by simp)
def fX4_save (a0 : Nat) (i1 : Int32) (w : XW) : Option (Int32 × XW) := if xis w a0 4 = true then
  (fX4_in i1 (0 : Int32) (1 : Int32) w).bind fun q1 =>
  if q1.1 = (0 : Int32) then
    some ((-2 : Int32), q1.2)
  else
  (xgR q1.2 a0 4 0).bind fun v2 =>
  (xgR q1.2 a0 4 3).bind fun v3 =>
  (fX4_lays v2 (0 : Int32) v3 ((72 : Int32) * i1) q1.2).bind fun q4 =>
  (xgR q4 a0 4 4).bind fun v5 =>
  (xsZ q4 v5 i1 (1 : Int32)).bind fun w6 =>
  (fX4_code a0 w6).bind fun q7 =>
  some (q7.1, q7.2)
  else none
theorem iX4_save {a0 : Nat} {i1 : Int32} {w : XW} {R9 : (Int32 × XW)} (h : fX4_save a0 i1 w = some R9) : xis w a0 4 = true := by
  unfold fX4_save at h
  rcases xite h with ⟨hc, h⟩ | ⟨hc, h⟩
  · exact hc
  · exact absurd h (by simp)
theorem np_X4_save : (parseMethodDescriptor yX4_save.desc).map (fun d => d.parameters.length) = some 1 := by decide +kernel
theorem hy_X4_save : yX4_save.cls ≠ "java/lang/invoke/MethodHandle" ∧ yX4_save.cls ≠ "java/lang/invoke/VarHandle" := ⟨by decide +kernel, by decide +kernel⟩
set_option maxRecDepth 20000 in
theorem eX4_save {cx : CX} {a0 : Nat} {i1 : Int32} {w : XW} {R9 : (Int32 × XW)} (h : fX4_save a0 i1 w = some R9) : Ct yX4_save cX4_save 2 (some .int) 1 24 cx [.ref a0, .int i1] w (some (.int R9.1)) R9.2 := by
  refine Ct_of (by decide +kernel) (Nat.le_of_ble_eq_true rfl) (fun K B hR => ?_)
  rw [fX4_save] at h
  show Wx K cx 2 w.length 0 [(0, .ref a0), (1, .int i1)] [] w
  rcases xite h with ⟨hc, h⟩ | ⟨hc, h⟩
  · skip
    refine x_iload_n (pc := 0) B 1 dX4_save_0 rfl rfl ?_
    refine x_iconst (pc := 1) B dX4_save_1 xk_iconst_0 ?_
    refine x_iconst (pc := 2) B dX4_save_2 xk_iconst_1 ?_
    obtain ⟨q1, hq, h⟩ := xbind h
    refine x_callS1 (st := []) (pc := 3) B dX4_save_3 (eX4_in hq) xt_639 xt_58 np_X4_in hy_X4_in (Nat.le_of_ble_eq_true rfl) (Nat.le_of_ble_eq_true rfl) (Nat.le_of_ble_eq_true rfl) xt_638 xt_637 rfl ?_
    rcases xite h with ⟨hc, h⟩ | ⟨hc, h⟩
    · refine x_if_ne_f (pc := 6) B 12 dX4_save_6 (by decide) hc ?_
      refine x_bipush (pc := 9) B dX4_save_9 xk_bipush_m2 ?_
      exact x_iret (pc := 11) B hR dX4_save_11 (xzI _) h
    · refine x_if_ne_t (tgt := 12) (pc := 6) B dX4_save_6 (by decide) hc ?_
      refine x_aload_n (pc := 12) B 0 dX4_save_12 rfl rfl ?_
      obtain ⟨v2, hv, h⟩ := xbind h
      refine x_getR (k0 := 0) (pc := 13) B dX4_save_13 rfl xi_4 (by decide) ⟨rfl, rfl, rfl⟩ xt_602 hv ?_
      refine x_iconst (pc := 16) B dX4_save_16 xk_iconst_0 ?_
      refine x_aload_n (pc := 17) B 0 dX4_save_17 rfl rfl ?_
      obtain ⟨v3, hv, h⟩ := xbind h
      refine x_getR (k0 := 3) (pc := 18) B dX4_save_18 rfl xi_4 (by decide) ⟨rfl, rfl, rfl⟩ xt_605 hv ?_
      refine x_bipush (pc := 21) B dX4_save_21 xk_bipush_72 ?_
      refine x_iload_n (pc := 23) B 1 dX4_save_23 rfl rfl ?_
      refine x_imul (pc := 24) B dX4_save_24 ?_
      obtain ⟨q4, hq, h⟩ := xbind h
      refine x_callS0 (st := []) (pc := 25) B dX4_save_25 (eX4_lays hq) xt_632 xt_58 np_X4_lays hy_X4_lays (Nat.le_of_ble_eq_true rfl) (Nat.le_of_ble_eq_true rfl) (Nat.le_of_ble_eq_true rfl) xt_631 xt_630 rfl ?_
      refine x_aload_n (pc := 28) B 0 dX4_save_28 rfl rfl ?_
      obtain ⟨v5, hv, h⟩ := xbind h
      refine x_getR (k0 := 4) (pc := 29) B dX4_save_29 rfl xi_4 (by decide) ⟨rfl, rfl, rfl⟩ xt_606 hv ?_
      refine x_iload_n (pc := 32) B 1 dX4_save_32 rfl rfl ?_
      refine x_iconst (pc := 33) B dX4_save_33 xk_iconst_1 ?_
      obtain ⟨w6, hv, h⟩ := xbind h
      refine x_zast (pc := 34) B dX4_save_34 hv ?_
      refine x_aload_n (pc := 35) B 0 dX4_save_35 rfl rfl ?_
      obtain ⟨q7, hq, h⟩ := xbind h
      refine x_callV1 (st := []) (pc := 36) B dX4_save_36 (eX4_code hq) xt_643 xt_58 np_X4_code hy_X4_code (Nat.le_of_ble_eq_true rfl) (Nat.le_of_ble_eq_true rfl) (Nat.le_of_ble_eq_true rfl) xt_642 xt_14 xt_640 rfl (iX4_code hq) rfl ?_
      exact x_iret (pc := 39) B hR dX4_save_39 (xzI _) h
  · exact absurd h (by simp)
def fX4_records_49 (a0 : Nat) (w : XW) : Option XW :=
  (xgR w a0 4 0).bind fun v4 =>
  (xgR w a0 4 1).bind fun v5 =>
  (xgI w a0 4 2).bind fun v6 =>
  (fX4_lays v4 (0 : Int32) v5 ((72 : Int32) * v6) w).bind fun q7 =>
  (xgI q7 a0 4 2).bind fun v8 =>
  (xpI q7 a0 4 2 (v8 + (1 : Int32))).bind fun w9 =>
  some w9
set_option maxRecDepth 20000 in
theorem pX4_records_49 {K : KX} {cx : CX} {nn : Nat} {R9 : XW} (B : XB K cx RX4 cX4_records 2 nn 1 24) (hR : XR K cx nn none none R9) : ∀ (a0 : Nat) (w : XW), fX4_records_49 a0 w = some R9 → Wx K cx 2 nn 49 [(0, .ref a0)] [] w := by
  intro a0 w h
  rw [fX4_records_49] at h
  refine x_aload_n (pc := 49) B 0 dX4_records_49 rfl rfl ?_
  obtain ⟨v4, hv, h⟩ := xbind h
  refine x_getR (k0 := 0) (pc := 50) B dX4_records_50 rfl xi_4 (by decide) ⟨rfl, rfl, rfl⟩ xt_602 hv ?_
  refine x_iconst (pc := 53) B dX4_records_53 xk_iconst_0 ?_
  refine x_aload_n (pc := 54) B 0 dX4_records_54 rfl rfl ?_
  obtain ⟨v5, hv, h⟩ := xbind h
  refine x_getR (k0 := 1) (pc := 55) B dX4_records_55 rfl xi_4 (by decide) ⟨rfl, rfl, rfl⟩ xt_603 hv ?_
  refine x_bipush (pc := 58) B dX4_records_58 xk_bipush_72 ?_
  refine x_aload_n (pc := 60) B 0 dX4_records_60 rfl rfl ?_
  obtain ⟨v6, hv, h⟩ := xbind h
  refine x_getI (k0 := 2) (pc := 61) B dX4_records_61 rfl xi_4 (by decide) ⟨rfl, rfl, rfl⟩ xt_604 hv ?_
  refine x_imul (pc := 64) B dX4_records_64 ?_
  obtain ⟨q7, hq, h⟩ := xbind h
  refine x_callS0 (st := []) (pc := 65) B dX4_records_65 (eX4_lays hq) xt_632 xt_58 np_X4_lays hy_X4_lays (Nat.le_of_ble_eq_true rfl) (Nat.le_of_ble_eq_true rfl) (Nat.le_of_ble_eq_true rfl) xt_631 xt_630 rfl ?_
  refine x_aload_n (pc := 68) B 0 dX4_records_68 rfl rfl ?_
  refine x_dup (pc := 69) B dX4_records_69 rfl ?_
  obtain ⟨v8, hv, h⟩ := xbind h
  refine x_getI (k0 := 2) (pc := 70) B dX4_records_70 rfl xi_4 (by decide) ⟨rfl, rfl, rfl⟩ xt_604 hv ?_
  refine x_iconst (pc := 73) B dX4_records_73 xk_iconst_1 ?_
  refine x_iadd (pc := 74) B dX4_records_74 ?_
  obtain ⟨w9, hv, h⟩ := xbind h
  refine x_putI (k0 := 2) (pc := 75) B dX4_records_75 rfl xi_4 (by decide) ⟨rfl, rfl, rfl⟩ xt_604 tyX4_ok nmX4 rfl xpdI hv ?_
  exact x_vret (pc := 78) B hR dX4_records_78 h
def fX4_records_11 : Nat → Nat → Int32 → XW → Option XW
  | 0, _, _, _ => none
  | g + 1, a0, i1, w =>
    if (360 : Int32) ≤ i1 then
      (xgI w a0 4 2).bind fun v2 =>
      (xpI w a0 4 2 (v2 - (1 : Int32))).bind fun w3 =>
      fX4_records_49 a0 w3
    else
    (xgR w a0 4 1).bind fun v10 =>
    (xgR w a0 4 1).bind fun v11 =>
    (xaI w v11 (i1 + (72 : Int32))).bind fun v12 =>
    (xsI w v10 i1 v12).bind fun w13 =>
    fX4_records_11 g a0 (i1 + (1 : Int32)) w13
set_option maxRecDepth 20000 in
theorem pX4_records_11 {K : KX} {cx : CX} {nn : Nat} {R9 : XW} (B : XB K cx RX4 cX4_records 2 nn 1 24) (hR : XR K cx nn none none R9) : ∀ (g : Nat) (a0 : Nat) (i1 : Int32) (w : XW), fX4_records_11 g a0 i1 w = some R9 → Wx K cx 2 nn 11 [(0, .ref a0), (1, .int i1)] [] w := by
  intro g
  induction g with
  | zero =>
    intro a0 i1 w h
    exact absurd (show (none : Option XW) = some R9 from h) (by simp)
  | succ g ih =>
    intro a0 i1 w h
    rw [fX4_records_11] at h
    refine x_iload_n (pc := 11) B 1 dX4_records_11 rfl rfl ?_
    refine x_sipush (pc := 12) B dX4_records_12 xk_sipush_360 ?_
    rcases xite h with ⟨hc, h⟩ | ⟨hc, h⟩
    · refine x_icmp_ge_t (tgt := 39) (pc := 15) B dX4_records_15 (by decide) hc ?_
      refine x_aload_n (pc := 39) B 0 dX4_records_39 rfl rfl ?_
      refine x_dup (pc := 40) B dX4_records_40 rfl ?_
      obtain ⟨v2, hv, h⟩ := xbind h
      refine x_getI (k0 := 2) (pc := 41) B dX4_records_41 rfl xi_4 (by decide) ⟨rfl, rfl, rfl⟩ xt_604 hv ?_
      refine x_iconst (pc := 44) B dX4_records_44 xk_iconst_1 ?_
      refine x_isub (pc := 45) B dX4_records_45 ?_
      obtain ⟨w3, hv, h⟩ := xbind h
      refine x_putI (k0 := 2) (pc := 46) B dX4_records_46 rfl xi_4 (by decide) ⟨rfl, rfl, rfl⟩ xt_604 tyX4_ok nmX4 rfl xpdI hv ?_
      refine x_sub (L1 := [(0, .ref a0)]) [0] rfl ?_
      exact pX4_records_49 B hR a0 w3 h
    · refine x_icmp_ge_f (pc := 15) B 39 dX4_records_15 (by decide) hc ?_
      refine x_aload_n (pc := 18) B 0 dX4_records_18 rfl rfl ?_
      obtain ⟨v10, hv, h⟩ := xbind h
      refine x_getR (k0 := 1) (pc := 19) B dX4_records_19 rfl xi_4 (by decide) ⟨rfl, rfl, rfl⟩ xt_603 hv ?_
      refine x_iload_n (pc := 22) B 1 dX4_records_22 rfl rfl ?_
      refine x_aload_n (pc := 23) B 0 dX4_records_23 rfl rfl ?_
      obtain ⟨v11, hv, h⟩ := xbind h
      refine x_getR (k0 := 1) (pc := 24) B dX4_records_24 rfl xi_4 (by decide) ⟨rfl, rfl, rfl⟩ xt_603 hv ?_
      refine x_iload_n (pc := 27) B 1 dX4_records_27 rfl rfl ?_
      refine x_bipush (pc := 28) B dX4_records_28 xk_bipush_72 ?_
      refine x_iadd (pc := 30) B dX4_records_30 ?_
      obtain ⟨v12, hv, h⟩ := xbind h
      refine x_iald (pc := 31) B dX4_records_31 hv ?_
      obtain ⟨w13, hv, h⟩ := xbind h
      refine x_iast (pc := 32) B dX4_records_32 hv ?_
      refine x_iinc (L1 := [(1, .int (i1 + (1 : Int32))), (0, .ref a0)]) (pc := 33) B 1 dX4_records_33 rfl (congrArg _ xk_iconst_1) (by decide) rfl ?_
      refine x_goto (tgt := 11) (pc := 36) B dX4_records_36 (by decide) ?_
      refine x_sub (L1 := [(0, .ref a0), (1, .int (i1 + (1 : Int32)))]) [1, 0] rfl ?_
      exact ih a0 (i1 + (1 : Int32)) w13 h
def fX4_records (a0 : Nat) (w : XW) : Option XW := if xis w a0 4 = true then
  (xgI w a0 4 2).bind fun v1 =>
  if v1 = (6 : Int32) then
    fX4_records_11 1000 a0 (0 : Int32) w
  else
  fX4_records_49 a0 w
  else none
theorem iX4_records {a0 : Nat} {w : XW} {R9 : XW} (h : fX4_records a0 w = some R9) : xis w a0 4 = true := by
  unfold fX4_records at h
  rcases xite h with ⟨hc, h⟩ | ⟨hc, h⟩
  · exact hc
  · exact absurd h (by simp)
theorem np_X4_records : (parseMethodDescriptor yX4_records.desc).map (fun d => d.parameters.length) = some 0 := by decide +kernel
theorem hy_X4_records : yX4_records.cls ≠ "java/lang/invoke/MethodHandle" ∧ yX4_records.cls ≠ "java/lang/invoke/VarHandle" := ⟨by decide +kernel, by decide +kernel⟩
set_option maxRecDepth 20000 in
theorem eX4_records {cx : CX} {a0 : Nat} {w : XW} {R9 : XW} (h : fX4_records a0 w = some R9) : Ct yX4_records cX4_records 2 none 1 24 cx [.ref a0] w none R9 := by
  refine Ct_of (by decide +kernel) (Nat.le_of_ble_eq_true rfl) (fun K B hR => ?_)
  rw [fX4_records] at h
  show Wx K cx 2 w.length 0 [(0, .ref a0)] [] w
  rcases xite h with ⟨hc, h⟩ | ⟨hc, h⟩
  · skip
    refine x_aload_n (pc := 0) B 0 dX4_records_0 rfl rfl ?_
    obtain ⟨v1, hv, h⟩ := xbind h
    refine x_getI (k0 := 2) (pc := 1) B dX4_records_1 rfl xi_4 (by decide) ⟨rfl, rfl, rfl⟩ xt_604 hv ?_
    refine x_bipush (pc := 4) B dX4_records_4 xk_bipush_6 ?_
    rcases xite h with ⟨hc, h⟩ | ⟨hc, h⟩
    · refine x_icmp_ne_f (pc := 6) B 49 dX4_records_6 (by decide) hc ?_
      refine x_iconst (pc := 9) B dX4_records_9 xk_iconst_0 ?_
      refine x_istore_n (L1 := [(1, .int (0 : Int32)), (0, .ref a0)]) (pc := 10) B dX4_records_10 rfl (by decide) rfl ?_
      refine x_sub (L1 := [(0, .ref a0), (1, .int (0 : Int32))]) [1, 0] rfl ?_
      exact pX4_records_11 B hR 1000 a0 (0 : Int32) w h
    · refine x_icmp_ne_t (tgt := 49) (pc := 6) B dX4_records_6 (by decide) hc ?_
      exact pX4_records_49 B hR a0 w h
  · exact absurd h (by simp)
def fX4_restore (a0 : Nat) (i1 : Int32) (w : XW) : Option (Int32 × XW) := if xis w a0 4 = true then
  (fX4_in i1 (0 : Int32) (1 : Int32) w).bind fun q1 =>
  if q1.1 = (0 : Int32) then
    some ((-2 : Int32), q1.2)
  else
  (xgR q1.2 a0 4 4).bind fun v2 =>
  (xaZ q1.2 v2 i1).bind fun v3 =>
  if v3 = (0 : Int32) then
    some ((-5 : Int32), q1.2)
  else
  (fX4_records a0 q1.2).bind fun q4 =>
  (xgR q4 a0 4 3).bind fun v5 =>
  (xgR q4 a0 4 0).bind fun v6 =>
  (fX4_lays v5 ((72 : Int32) * i1) v6 (0 : Int32) q4).bind fun q7 =>
  (fX4_code a0 q7).bind fun q8 =>
  some (q8.1, q8.2)
  else none
theorem iX4_restore {a0 : Nat} {i1 : Int32} {w : XW} {R9 : (Int32 × XW)} (h : fX4_restore a0 i1 w = some R9) : xis w a0 4 = true := by
  unfold fX4_restore at h
  rcases xite h with ⟨hc, h⟩ | ⟨hc, h⟩
  · exact hc
  · exact absurd h (by simp)
theorem np_X4_restore : (parseMethodDescriptor yX4_restore.desc).map (fun d => d.parameters.length) = some 1 := by decide +kernel
theorem hy_X4_restore : yX4_restore.cls ≠ "java/lang/invoke/MethodHandle" ∧ yX4_restore.cls ≠ "java/lang/invoke/VarHandle" := ⟨by decide +kernel, by decide +kernel⟩
set_option maxRecDepth 20000 in
theorem eX4_restore {cx : CX} {a0 : Nat} {i1 : Int32} {w : XW} {R9 : (Int32 × XW)} (h : fX4_restore a0 i1 w = some R9) : Ct yX4_restore cX4_restore 2 (some .int) 2 45 cx [.ref a0, .int i1] w (some (.int R9.1)) R9.2 := by
  refine Ct_of (by decide +kernel) (Nat.le_of_ble_eq_true rfl) (fun K B hR => ?_)
  rw [fX4_restore] at h
  show Wx K cx 2 w.length 0 [(0, .ref a0), (1, .int i1)] [] w
  rcases xite h with ⟨hc, h⟩ | ⟨hc, h⟩
  · skip
    refine x_iload_n (pc := 0) B 1 dX4_restore_0 rfl rfl ?_
    refine x_iconst (pc := 1) B dX4_restore_1 xk_iconst_0 ?_
    refine x_iconst (pc := 2) B dX4_restore_2 xk_iconst_1 ?_
    obtain ⟨q1, hq, h⟩ := xbind h
    refine x_callS1 (st := []) (pc := 3) B dX4_restore_3 (eX4_in hq) xt_639 xt_58 np_X4_in hy_X4_in (Nat.le_of_ble_eq_true rfl) (Nat.le_of_ble_eq_true rfl) (Nat.le_of_ble_eq_true rfl) xt_638 xt_637 rfl ?_
    rcases xite h with ⟨hc, h⟩ | ⟨hc, h⟩
    · refine x_if_ne_f (pc := 6) B 12 dX4_restore_6 (by decide) hc ?_
      refine x_bipush (pc := 9) B dX4_restore_9 xk_bipush_m2 ?_
      exact x_iret (pc := 11) B hR dX4_restore_11 (xzI _) h
    · refine x_if_ne_t (tgt := 12) (pc := 6) B dX4_restore_6 (by decide) hc ?_
      refine x_aload_n (pc := 12) B 0 dX4_restore_12 rfl rfl ?_
      obtain ⟨v2, hv, h⟩ := xbind h
      refine x_getR (k0 := 4) (pc := 13) B dX4_restore_13 rfl xi_4 (by decide) ⟨rfl, rfl, rfl⟩ xt_606 hv ?_
      refine x_iload_n (pc := 16) B 1 dX4_restore_16 rfl rfl ?_
      obtain ⟨v3, hv, h⟩ := xbind h
      refine x_zald (pc := 17) B dX4_restore_17 hv ?_
      rcases xite h with ⟨hc, h⟩ | ⟨hc, h⟩
      · refine x_if_ne_f (pc := 18) B 24 dX4_restore_18 (by decide) hc ?_
        refine x_bipush (pc := 21) B dX4_restore_21 xk_bipush_m5 ?_
        exact x_iret (pc := 23) B hR dX4_restore_23 (xzI _) h
      · refine x_if_ne_t (tgt := 24) (pc := 18) B dX4_restore_18 (by decide) hc ?_
        refine x_aload_n (pc := 24) B 0 dX4_restore_24 rfl rfl ?_
        obtain ⟨q4, hq, h⟩ := xbind h
        refine x_callV0 (st := []) (pc := 25) B dX4_restore_25 (eX4_records hq) xt_651 xt_58 np_X4_records hy_X4_records (Nat.le_of_ble_eq_true rfl) (Nat.le_of_ble_eq_true rfl) (Nat.le_of_ble_eq_true rfl) xt_650 xt_15 xt_648 rfl (iX4_records hq) rfl ?_
        refine x_aload_n (pc := 28) B 0 dX4_restore_28 rfl rfl ?_
        obtain ⟨v5, hv, h⟩ := xbind h
        refine x_getR (k0 := 3) (pc := 29) B dX4_restore_29 rfl xi_4 (by decide) ⟨rfl, rfl, rfl⟩ xt_605 hv ?_
        refine x_bipush (pc := 32) B dX4_restore_32 xk_bipush_72 ?_
        refine x_iload_n (pc := 34) B 1 dX4_restore_34 rfl rfl ?_
        refine x_imul (pc := 35) B dX4_restore_35 ?_
        refine x_aload_n (pc := 36) B 0 dX4_restore_36 rfl rfl ?_
        obtain ⟨v6, hv, h⟩ := xbind h
        refine x_getR (k0 := 0) (pc := 37) B dX4_restore_37 rfl xi_4 (by decide) ⟨rfl, rfl, rfl⟩ xt_602 hv ?_
        refine x_iconst (pc := 40) B dX4_restore_40 xk_iconst_0 ?_
        obtain ⟨q7, hq, h⟩ := xbind h
        refine x_callS0 (st := []) (pc := 41) B dX4_restore_41 (eX4_lays hq) xt_632 xt_58 np_X4_lays hy_X4_lays (Nat.le_of_ble_eq_true rfl) (Nat.le_of_ble_eq_true rfl) (Nat.le_of_ble_eq_true rfl) xt_631 xt_630 rfl ?_
        refine x_aload_n (pc := 44) B 0 dX4_restore_44 rfl rfl ?_
        obtain ⟨q8, hq, h⟩ := xbind h
        refine x_callV1 (st := []) (pc := 45) B dX4_restore_45 (eX4_code hq) xt_643 xt_58 np_X4_code hy_X4_code (Nat.le_of_ble_eq_true rfl) (Nat.le_of_ble_eq_true rfl) (Nat.le_of_ble_eq_true rfl) xt_642 xt_14 xt_640 rfl (iX4_code hq) rfl ?_
        exact x_iret (pc := 48) B hR dX4_restore_48 (xzI _) h
  · exact absurd h (by simp)
def fX4_isOne (i0 : Int32) (w : XW) : Option (Int32 × XW) :=
  (fX4_in i0 (0 : Int32) (2 : Int32) w).bind fun q1 =>
  if vp_nar .boolean q1.1 = q1.1 then some (q1.1, q1.2) else none
theorem np_X4_isOne : (parseMethodDescriptor yX4_isOne.desc).map (fun d => d.parameters.length) = some 1 := by decide +kernel
theorem hy_X4_isOne : yX4_isOne.cls ≠ "java/lang/invoke/MethodHandle" ∧ yX4_isOne.cls ≠ "java/lang/invoke/VarHandle" := ⟨by decide +kernel, by decide +kernel⟩
set_option maxRecDepth 20000 in
theorem eX4_isOne {cx : CX} {i0 : Int32} {w : XW} {R9 : (Int32 × XW)} (h : fX4_isOne i0 w = some R9) : Ct yX4_isOne cX4_isOne 1 (some .boolean) 1 22 cx [.int i0] w (some (.int R9.1)) R9.2 := by
  refine Ct_of (by decide +kernel) (Nat.le_of_ble_eq_true rfl) (fun K B hR => ?_)
  rw [fX4_isOne] at h
  show Wx K cx 1 w.length 0 [(0, .int i0)] [] w
  refine x_iload_n (pc := 0) B 0 dX4_isOne_0 rfl rfl ?_
  refine x_iconst (pc := 1) B dX4_isOne_1 xk_iconst_0 ?_
  refine x_iconst (pc := 2) B dX4_isOne_2 xk_iconst_2 ?_
  obtain ⟨q1, hq, h⟩ := xbind h
  refine x_callS1 (st := []) (pc := 3) B dX4_isOne_3 (eX4_in hq) xt_639 xt_58 np_X4_in hy_X4_in (Nat.le_of_ble_eq_true rfl) (Nat.le_of_ble_eq_true rfl) (Nat.le_of_ble_eq_true rfl) xt_638 xt_637 rfl ?_
  rcases xite h with ⟨hc, h⟩ | ⟨hc, h⟩
  · exact x_iret (pc := 6) B hR dX4_isOne_6 (xnar (Or.inl rfl) hc) h
  · exact absurd h (by simp)
def fX4_mayWeigh (a0 : Nat) (i1 : Int32) (i2 : Int32) (i3 : Int32) (w : XW) : Option (Int32 × XW) := if xis w a0 4 = true then
  (fX4_isOne i2 w).bind fun q1 =>
  if q1.1 = (0 : Int32) then
    some ((-1 : Int32), q1.2)
  else
  (fX4_in i3 (0 : Int32) (9 : Int32) q1.2).bind fun q2 =>
  if q2.1 = (0 : Int32) then
    some ((-2 : Int32), q2.2)
  else
  (xgR q2.2 a0 4 0).bind fun v3 =>
  (xaI q2.2 v3 i1).bind fun v4 =>
  (xgR q2.2 a0 4 0).bind fun v5 =>
  (xaI q2.2 v5 (i1 + (1 : Int32))).bind fun v6 =>
  (xgR q2.2 a0 4 0).bind fun v7 =>
  (xaI q2.2 v7 (i1 + (2 : Int32))).bind fun v8 =>
  (xgR q2.2 a0 4 0).bind fun v9 =>
  (xaI q2.2 v9 (i1 + i2)).bind fun v10 =>
  if ((((v4 + v6) + v8) - v10) + i3) = (0 : Int32) then
    some ((-5 : Int32), q2.2)
  else
  some ((0 : Int32), q2.2)
  else none
theorem iX4_mayWeigh {a0 : Nat} {i1 : Int32} {i2 : Int32} {i3 : Int32} {w : XW} {R9 : (Int32 × XW)} (h : fX4_mayWeigh a0 i1 i2 i3 w = some R9) : xis w a0 4 = true := by
  unfold fX4_mayWeigh at h
  rcases xite h with ⟨hc, h⟩ | ⟨hc, h⟩
  · exact hc
  · exact absurd h (by simp)
theorem np_X4_mayWeigh : (parseMethodDescriptor yX4_mayWeigh.desc).map (fun d => d.parameters.length) = some 3 := by decide +kernel
theorem hy_X4_mayWeigh : yX4_mayWeigh.cls ≠ "java/lang/invoke/MethodHandle" ∧ yX4_mayWeigh.cls ≠ "java/lang/invoke/VarHandle" := ⟨by decide +kernel, by decide +kernel⟩
set_option maxRecDepth 20000 in
theorem eX4_mayWeigh {cx : CX} {a0 : Nat} {i1 : Int32} {i2 : Int32} {i3 : Int32} {w : XW} {R9 : (Int32 × XW)} (h : fX4_mayWeigh a0 i1 i2 i3 w = some R9) : Ct yX4_mayWeigh cX4_mayWeigh 4 (some .int) 2 42 cx [.ref a0, .int i1, .int i2, .int i3] w (some (.int R9.1)) R9.2 := by
  refine Ct_of (by decide +kernel) (Nat.le_of_ble_eq_true rfl) (fun K B hR => ?_)
  rw [fX4_mayWeigh] at h
  show Wx K cx 4 w.length 0 [(0, .ref a0), (1, .int i1), (2, .int i2), (3, .int i3)] [] w
  rcases xite h with ⟨hc, h⟩ | ⟨hc, h⟩
  · skip
    refine x_iload_n (pc := 0) B 2 dX4_mayWeigh_0 rfl rfl ?_
    obtain ⟨q1, hq, h⟩ := xbind h
    refine x_callS1 (st := []) (pc := 1) B dX4_mayWeigh_1 (eX4_isOne hq) xt_662 xt_58 np_X4_isOne hy_X4_isOne (Nat.le_of_ble_eq_true rfl) (Nat.le_of_ble_eq_true rfl) (Nat.le_of_ble_eq_true rfl) xt_661 xt_660 rfl ?_
    rcases xite h with ⟨hc, h⟩ | ⟨hc, h⟩
    · refine x_if_ne_f (pc := 4) B 9 dX4_mayWeigh_4 (by decide) hc ?_
      refine x_iconst (pc := 7) B dX4_mayWeigh_7 xk_iconst_m1 ?_
      exact x_iret (pc := 8) B hR dX4_mayWeigh_8 (xzI _) h
    · refine x_if_ne_t (tgt := 9) (pc := 4) B dX4_mayWeigh_4 (by decide) hc ?_
      refine x_iload_n (pc := 9) B 3 dX4_mayWeigh_9 rfl rfl ?_
      refine x_iconst (pc := 10) B dX4_mayWeigh_10 xk_iconst_0 ?_
      refine x_bipush (pc := 11) B dX4_mayWeigh_11 xk_bipush_9 ?_
      obtain ⟨q2, hq, h⟩ := xbind h
      refine x_callS1 (st := []) (pc := 13) B dX4_mayWeigh_13 (eX4_in hq) xt_639 xt_58 np_X4_in hy_X4_in (Nat.le_of_ble_eq_true rfl) (Nat.le_of_ble_eq_true rfl) (Nat.le_of_ble_eq_true rfl) xt_638 xt_637 rfl ?_
      rcases xite h with ⟨hc, h⟩ | ⟨hc, h⟩
      · refine x_if_ne_f (pc := 16) B 22 dX4_mayWeigh_16 (by decide) hc ?_
        refine x_bipush (pc := 19) B dX4_mayWeigh_19 xk_bipush_m2 ?_
        exact x_iret (pc := 21) B hR dX4_mayWeigh_21 (xzI _) h
      · refine x_if_ne_t (tgt := 22) (pc := 16) B dX4_mayWeigh_16 (by decide) hc ?_
        refine x_aload_n (pc := 22) B 0 dX4_mayWeigh_22 rfl rfl ?_
        obtain ⟨v3, hv, h⟩ := xbind h
        refine x_getR (k0 := 0) (pc := 23) B dX4_mayWeigh_23 rfl xi_4 (by decide) ⟨rfl, rfl, rfl⟩ xt_602 hv ?_
        refine x_iload_n (pc := 26) B 1 dX4_mayWeigh_26 rfl rfl ?_
        obtain ⟨v4, hv, h⟩ := xbind h
        refine x_iald (pc := 27) B dX4_mayWeigh_27 hv ?_
        refine x_aload_n (pc := 28) B 0 dX4_mayWeigh_28 rfl rfl ?_
        obtain ⟨v5, hv, h⟩ := xbind h
        refine x_getR (k0 := 0) (pc := 29) B dX4_mayWeigh_29 rfl xi_4 (by decide) ⟨rfl, rfl, rfl⟩ xt_602 hv ?_
        refine x_iload_n (pc := 32) B 1 dX4_mayWeigh_32 rfl rfl ?_
        refine x_iconst (pc := 33) B dX4_mayWeigh_33 xk_iconst_1 ?_
        refine x_iadd (pc := 34) B dX4_mayWeigh_34 ?_
        obtain ⟨v6, hv, h⟩ := xbind h
        refine x_iald (pc := 35) B dX4_mayWeigh_35 hv ?_
        refine x_iadd (pc := 36) B dX4_mayWeigh_36 ?_
        refine x_aload_n (pc := 37) B 0 dX4_mayWeigh_37 rfl rfl ?_
        obtain ⟨v7, hv, h⟩ := xbind h
        refine x_getR (k0 := 0) (pc := 38) B dX4_mayWeigh_38 rfl xi_4 (by decide) ⟨rfl, rfl, rfl⟩ xt_602 hv ?_
        refine x_iload_n (pc := 41) B 1 dX4_mayWeigh_41 rfl rfl ?_
        refine x_iconst (pc := 42) B dX4_mayWeigh_42 xk_iconst_2 ?_
        refine x_iadd (pc := 43) B dX4_mayWeigh_43 ?_
        obtain ⟨v8, hv, h⟩ := xbind h
        refine x_iald (pc := 44) B dX4_mayWeigh_44 hv ?_
        refine x_iadd (pc := 45) B dX4_mayWeigh_45 ?_
        refine x_aload_n (pc := 46) B 0 dX4_mayWeigh_46 rfl rfl ?_
        obtain ⟨v9, hv, h⟩ := xbind h
        refine x_getR (k0 := 0) (pc := 47) B dX4_mayWeigh_47 rfl xi_4 (by decide) ⟨rfl, rfl, rfl⟩ xt_602 hv ?_
        refine x_iload_n (pc := 50) B 1 dX4_mayWeigh_50 rfl rfl ?_
        refine x_iload_n (pc := 51) B 2 dX4_mayWeigh_51 rfl rfl ?_
        refine x_iadd (pc := 52) B dX4_mayWeigh_52 ?_
        obtain ⟨v10, hv, h⟩ := xbind h
        refine x_iald (pc := 53) B dX4_mayWeigh_53 hv ?_
        refine x_isub (pc := 54) B dX4_mayWeigh_54 ?_
        refine x_iload_n (pc := 55) B 3 dX4_mayWeigh_55 rfl rfl ?_
        refine x_iadd (pc := 56) B dX4_mayWeigh_56 ?_
        rcases xite h with ⟨hc, h⟩ | ⟨hc, h⟩
        · refine x_if_ne_f (pc := 57) B 65 dX4_mayWeigh_57 (by decide) hc ?_
          refine x_bipush (pc := 60) B dX4_mayWeigh_60 xk_bipush_m5 ?_
          refine x_goto (tgt := 66) (pc := 62) B dX4_mayWeigh_62 (by decide) ?_
          exact x_iret (pc := 66) B hR dX4_mayWeigh_66 (xzI _) h
        · refine x_if_ne_t (tgt := 65) (pc := 57) B dX4_mayWeigh_57 (by decide) hc ?_
          refine x_iconst (pc := 65) B dX4_mayWeigh_65 xk_iconst_0 ?_
          exact x_iret (pc := 66) B hR dX4_mayWeigh_66 (xzI _) h
  · exact absurd h (by simp)
def fX4_changes (a0 : Nat) (i1 : Int32) (i2 : Int32) (w : XW) : Option (Int32 × XW) := if xis w a0 4 = true then
  (xgR w a0 4 0).bind fun v1 =>
  (xaI w v1 i1).bind fun v2 =>
  (xgR w a0 4 0).bind fun v3 =>
  (xsI w v3 i1 i2).bind fun w4 =>
  some (v2, w4)
  else none
theorem iX4_changes {a0 : Nat} {i1 : Int32} {i2 : Int32} {w : XW} {R9 : (Int32 × XW)} (h : fX4_changes a0 i1 i2 w = some R9) : xis w a0 4 = true := by
  unfold fX4_changes at h
  rcases xite h with ⟨hc, h⟩ | ⟨hc, h⟩
  · exact hc
  · exact absurd h (by simp)
theorem np_X4_changes : (parseMethodDescriptor yX4_changes.desc).map (fun d => d.parameters.length) = some 2 := by decide +kernel
theorem hy_X4_changes : yX4_changes.cls ≠ "java/lang/invoke/MethodHandle" ∧ yX4_changes.cls ≠ "java/lang/invoke/VarHandle" := ⟨by decide +kernel, by decide +kernel⟩
set_option maxRecDepth 20000 in
theorem eX4_changes {cx : CX} {a0 : Nat} {i1 : Int32} {i2 : Int32} {w : XW} {R9 : (Int32 × XW)} (h : fX4_changes a0 i1 i2 w = some R9) : Ct yX4_changes cX4_changes 4 (some .int) 0 0 cx [.ref a0, .int i1, .int i2] w (some (.int R9.1)) R9.2 := by
  refine Ct_of (by decide +kernel) (Nat.le_of_ble_eq_true rfl) (fun K B hR => ?_)
  rw [fX4_changes] at h
  show Wx K cx 4 w.length 0 [(0, .ref a0), (1, .int i1), (2, .int i2)] [] w
  rcases xite h with ⟨hc, h⟩ | ⟨hc, h⟩
  · skip
    refine x_aload_n (pc := 0) B 0 dX4_changes_0 rfl rfl ?_
    obtain ⟨v1, hv, h⟩ := xbind h
    refine x_getR (k0 := 0) (pc := 1) B dX4_changes_1 rfl xi_4 (by decide) ⟨rfl, rfl, rfl⟩ xt_602 hv ?_
    refine x_iload_n (pc := 4) B 1 dX4_changes_4 rfl rfl ?_
    obtain ⟨v2, hv, h⟩ := xbind h
    refine x_iald (pc := 5) B dX4_changes_5 hv ?_
    refine x_istore_n (L1 := [(3, .int v2), (0, .ref a0), (1, .int i1), (2, .int i2)]) (pc := 6) B dX4_changes_6 rfl (by decide) rfl ?_
    refine x_aload_n (pc := 7) B 1 dX4_changes_7 rfl rfl ?_
    obtain ⟨v3, hv, h⟩ := xbind h
    refine x_getR (k0 := 0) (pc := 8) B dX4_changes_8 rfl xi_4 (by decide) ⟨rfl, rfl, rfl⟩ xt_602 hv ?_
    refine x_iload_n (pc := 11) B 2 dX4_changes_11 rfl rfl ?_
    refine x_iload_n (pc := 12) B 3 dX4_changes_12 rfl rfl ?_
    obtain ⟨w4, hv, h⟩ := xbind h
    refine x_iast (pc := 13) B dX4_changes_13 hv ?_
    refine x_iload_n (pc := 14) B 0 dX4_changes_14 rfl rfl ?_
    exact x_iret (pc := 15) B hR dX4_changes_15 (xzI _) h
  · exact absurd h (by simp)
def fX4_weight (a0 : Nat) (i1 : Int32) (i2 : Int32) (w : XW) : Option (Int32 × XW) := if xis w a0 4 = true then
  (fX4_mayWeigh a0 (0 : Int32) i1 i2 w).bind fun q1 =>
  if q1.1 = (0 : Int32) then
    (fX4_records a0 q1.2).bind fun q2 =>
    (fX4_changes a0 i1 i2 q2).bind fun q3 =>
    some (q3.1, q3.2)
  else
  some (q1.1, q1.2)
  else none
theorem iX4_weight {a0 : Nat} {i1 : Int32} {i2 : Int32} {w : XW} {R9 : (Int32 × XW)} (h : fX4_weight a0 i1 i2 w = some R9) : xis w a0 4 = true := by
  unfold fX4_weight at h
  rcases xite h with ⟨hc, h⟩ | ⟨hc, h⟩
  · exact hc
  · exact absurd h (by simp)
theorem np_X4_weight : (parseMethodDescriptor yX4_weight.desc).map (fun d => d.parameters.length) = some 2 := by decide +kernel
theorem hy_X4_weight : yX4_weight.cls ≠ "java/lang/invoke/MethodHandle" ∧ yX4_weight.cls ≠ "java/lang/invoke/VarHandle" := ⟨by decide +kernel, by decide +kernel⟩
set_option maxRecDepth 20000 in
theorem eX4_weight {cx : CX} {a0 : Nat} {i1 : Int32} {i2 : Int32} {w : XW} {R9 : (Int32 × XW)} (h : fX4_weight a0 i1 i2 w = some R9) : Ct yX4_weight cX4_weight 4 (some .int) 3 65 cx [.ref a0, .int i1, .int i2] w (some (.int R9.1)) R9.2 := by
  refine Ct_of (by decide +kernel) (Nat.le_of_ble_eq_true rfl) (fun K B hR => ?_)
  rw [fX4_weight] at h
  show Wx K cx 4 w.length 0 [(0, .ref a0), (1, .int i1), (2, .int i2)] [] w
  rcases xite h with ⟨hc, h⟩ | ⟨hc, h⟩
  · skip
    refine x_aload_n (pc := 0) B 0 dX4_weight_0 rfl rfl ?_
    refine x_iconst (pc := 1) B dX4_weight_1 xk_iconst_0 ?_
    refine x_iload_n (pc := 2) B 1 dX4_weight_2 rfl rfl ?_
    refine x_iload_n (pc := 3) B 2 dX4_weight_3 rfl rfl ?_
    obtain ⟨q1, hq, h⟩ := xbind h
    refine x_callV1 (st := []) (pc := 4) B dX4_weight_4 (eX4_mayWeigh hq) xt_659 xt_58 np_X4_mayWeigh hy_X4_mayWeigh (Nat.le_of_ble_eq_true rfl) (Nat.le_of_ble_eq_true rfl) (Nat.le_of_ble_eq_true rfl) xt_658 xt_16 xt_656 rfl (iX4_mayWeigh hq) rfl ?_
    refine x_istore_n (L1 := [(3, .int q1.1), (0, .ref a0), (1, .int i1), (2, .int i2)]) (pc := 7) B dX4_weight_7 rfl (by decide) rfl ?_
    refine x_iload_n (pc := 8) B 0 dX4_weight_8 rfl rfl ?_
    rcases xite h with ⟨hc, h⟩ | ⟨hc, h⟩
    · refine x_if_eq_t (tgt := 14) (pc := 9) B dX4_weight_9 (by decide) hc ?_
      refine x_aload_n (pc := 14) B 1 dX4_weight_14 rfl rfl ?_
      obtain ⟨q2, hq, h⟩ := xbind h
      refine x_callV0 (st := []) (pc := 15) B dX4_weight_15 (eX4_records hq) xt_651 xt_58 np_X4_records hy_X4_records (Nat.le_of_ble_eq_true rfl) (Nat.le_of_ble_eq_true rfl) (Nat.le_of_ble_eq_true rfl) xt_650 xt_15 xt_648 rfl (iX4_records hq) rfl ?_
      refine x_aload_n (pc := 18) B 1 dX4_weight_18 rfl rfl ?_
      refine x_iload_n (pc := 19) B 2 dX4_weight_19 rfl rfl ?_
      refine x_iload_n (pc := 20) B 3 dX4_weight_20 rfl rfl ?_
      obtain ⟨q3, hq, h⟩ := xbind h
      refine x_callV1 (st := []) (pc := 21) B dX4_weight_21 (eX4_changes hq) xt_666 xt_58 np_X4_changes hy_X4_changes (Nat.le_of_ble_eq_true rfl) (Nat.le_of_ble_eq_true rfl) (Nat.le_of_ble_eq_true rfl) xt_665 xt_17 xt_663 rfl (iX4_changes hq) rfl ?_
      exact x_iret (pc := 24) B hR dX4_weight_24 (xzI _) h
    · refine x_if_eq_f (pc := 9) B 14 dX4_weight_9 (by decide) hc ?_
      refine x_iload_n (pc := 12) B 0 dX4_weight_12 rfl rfl ?_
      exact x_iret (pc := 13) B hR dX4_weight_13 (xzI _) h
  · exact absurd h (by simp)
def fX4_arePlace (i0 : Int32) (i1 : Int32) (i2 : Int32) (w : XW) : Option (Int32 × XW) :=
  (fX4_isOne i0 w).bind fun q1 =>
  if q1.1 = (0 : Int32) then
    some ((0 : Int32), q1.2)
  else
  (fX4_isOne i1 q1.2).bind fun q2 =>
  if q2.1 = (0 : Int32) then
    some ((0 : Int32), q2.2)
  else
  (fX4_isOne i2 q2.2).bind fun q3 =>
  if q3.1 = (0 : Int32) then
    some ((0 : Int32), q3.2)
  else
  some ((1 : Int32), q3.2)
theorem np_X4_arePlace : (parseMethodDescriptor yX4_arePlace.desc).map (fun d => d.parameters.length) = some 3 := by decide +kernel
theorem hy_X4_arePlace : yX4_arePlace.cls ≠ "java/lang/invoke/MethodHandle" ∧ yX4_arePlace.cls ≠ "java/lang/invoke/VarHandle" := ⟨by decide +kernel, by decide +kernel⟩
set_option maxRecDepth 20000 in
theorem eX4_arePlace {cx : CX} {i0 : Int32} {i1 : Int32} {i2 : Int32} {w : XW} {R9 : (Int32 × XW)} (h : fX4_arePlace i0 i1 i2 w = some R9) : Ct yX4_arePlace cX4_arePlace 3 (some .boolean) 2 42 cx [.int i0, .int i1, .int i2] w (some (.int R9.1)) R9.2 := by
  refine Ct_of (by decide +kernel) (Nat.le_of_ble_eq_true rfl) (fun K B hR => ?_)
  rw [fX4_arePlace] at h
  show Wx K cx 3 w.length 0 [(0, .int i0), (1, .int i1), (2, .int i2)] [] w
  refine x_iload_n (pc := 0) B 0 dX4_arePlace_0 rfl rfl ?_
  obtain ⟨q1, hq, h⟩ := xbind h
  refine x_callS1 (st := []) (pc := 1) B dX4_arePlace_1 (eX4_isOne hq) xt_662 xt_58 np_X4_isOne hy_X4_isOne (Nat.le_of_ble_eq_true rfl) (Nat.le_of_ble_eq_true rfl) (Nat.le_of_ble_eq_true rfl) xt_661 xt_660 rfl ?_
  rcases xite h with ⟨hc, h⟩ | ⟨hc, h⟩
  · refine x_if_eq_t (tgt := 25) (pc := 4) B dX4_arePlace_4 (by decide) hc ?_
    refine x_iconst (pc := 25) B dX4_arePlace_25 xk_iconst_0 ?_
    exact x_iret (pc := 26) B hR dX4_arePlace_26 xz0 h
  · refine x_if_eq_f (pc := 4) B 25 dX4_arePlace_4 (by decide) hc ?_
    refine x_iload_n (pc := 7) B 1 dX4_arePlace_7 rfl rfl ?_
    obtain ⟨q2, hq, h⟩ := xbind h
    refine x_callS1 (st := []) (pc := 8) B dX4_arePlace_8 (eX4_isOne hq) xt_662 xt_58 np_X4_isOne hy_X4_isOne (Nat.le_of_ble_eq_true rfl) (Nat.le_of_ble_eq_true rfl) (Nat.le_of_ble_eq_true rfl) xt_661 xt_660 rfl ?_
    rcases xite h with ⟨hc, h⟩ | ⟨hc, h⟩
    · refine x_if_eq_t (tgt := 25) (pc := 11) B dX4_arePlace_11 (by decide) hc ?_
      refine x_iconst (pc := 25) B dX4_arePlace_25 xk_iconst_0 ?_
      exact x_iret (pc := 26) B hR dX4_arePlace_26 xz0 h
    · refine x_if_eq_f (pc := 11) B 25 dX4_arePlace_11 (by decide) hc ?_
      refine x_iload_n (pc := 14) B 2 dX4_arePlace_14 rfl rfl ?_
      obtain ⟨q3, hq, h⟩ := xbind h
      refine x_callS1 (st := []) (pc := 15) B dX4_arePlace_15 (eX4_isOne hq) xt_662 xt_58 np_X4_isOne hy_X4_isOne (Nat.le_of_ble_eq_true rfl) (Nat.le_of_ble_eq_true rfl) (Nat.le_of_ble_eq_true rfl) xt_661 xt_660 rfl ?_
      rcases xite h with ⟨hc, h⟩ | ⟨hc, h⟩
      · refine x_if_eq_t (tgt := 25) (pc := 18) B dX4_arePlace_18 (by decide) hc ?_
        refine x_iconst (pc := 25) B dX4_arePlace_25 xk_iconst_0 ?_
        exact x_iret (pc := 26) B hR dX4_arePlace_26 xz0 h
      · refine x_if_eq_f (pc := 18) B 25 dX4_arePlace_18 (by decide) hc ?_
        refine x_iconst (pc := 21) B dX4_arePlace_21 xk_iconst_1 ?_
        refine x_goto (tgt := 26) (pc := 22) B dX4_arePlace_22 (by decide) ?_
        exact x_iret (pc := 26) B hR dX4_arePlace_26 xz1 h
def fX4_place (i0 : Int32) (i1 : Int32) (i2 : Int32) (i3 : Int32) (w : XW) : Option (Int32 × XW) :=
  some ((((((3 : Int32) + ((27 : Int32) * i0)) + ((9 : Int32) * i1)) + ((3 : Int32) * i2)) + i3), w)
theorem np_X4_place : (parseMethodDescriptor yX4_place.desc).map (fun d => d.parameters.length) = some 4 := by decide +kernel
theorem hy_X4_place : yX4_place.cls ≠ "java/lang/invoke/MethodHandle" ∧ yX4_place.cls ≠ "java/lang/invoke/VarHandle" := ⟨by decide +kernel, by decide +kernel⟩
set_option maxRecDepth 20000 in
theorem eX4_place {cx : CX} {i0 : Int32} {i1 : Int32} {i2 : Int32} {i3 : Int32} {w : XW} {R9 : (Int32 × XW)} (h : fX4_place i0 i1 i2 i3 w = some R9) : Ct yX4_place cX4_place 4 (some .int) 0 0 cx [.int i0, .int i1, .int i2, .int i3] w (some (.int R9.1)) R9.2 := by
  refine Ct_of (by decide +kernel) (Nat.le_of_ble_eq_true rfl) (fun K B hR => ?_)
  rw [fX4_place] at h
  show Wx K cx 4 w.length 0 [(0, .int i0), (1, .int i1), (2, .int i2), (3, .int i3)] [] w
  refine x_iconst (pc := 0) B dX4_place_0 xk_iconst_3 ?_
  refine x_bipush (pc := 1) B dX4_place_1 xk_bipush_27 ?_
  refine x_iload_n (pc := 3) B 0 dX4_place_3 rfl rfl ?_
  refine x_imul (pc := 4) B dX4_place_4 ?_
  refine x_iadd (pc := 5) B dX4_place_5 ?_
  refine x_bipush (pc := 6) B dX4_place_6 xk_bipush_9 ?_
  refine x_iload_n (pc := 8) B 1 dX4_place_8 rfl rfl ?_
  refine x_imul (pc := 9) B dX4_place_9 ?_
  refine x_iadd (pc := 10) B dX4_place_10 ?_
  refine x_iconst (pc := 11) B dX4_place_11 xk_iconst_3 ?_
  refine x_iload_n (pc := 12) B 2 dX4_place_12 rfl rfl ?_
  refine x_imul (pc := 13) B dX4_place_13 ?_
  refine x_iadd (pc := 14) B dX4_place_14 ?_
  refine x_iload_n (pc := 15) B 3 dX4_place_15 rfl rfl ?_
  refine x_iadd (pc := 16) B dX4_place_16 ?_
  exact x_iret (pc := 17) B hR dX4_place_17 (xzI _) h
def fX4_pay (a0 : Nat) (i1 : Int32) (i2 : Int32) (i3 : Int32) (i4 : Int32) (i5 : Int32) (w : XW) : Option (Int32 × XW) := if xis w a0 4 = true then
  (fX4_arePlace i2 i3 i4 w).bind fun q1 =>
  if q1.1 = (0 : Int32) then
    some ((-1 : Int32), q1.2)
  else
  (fX4_in i1 (0 : Int32) (1 : Int32) q1.2).bind fun q2 =>
  if q2.1 = (0 : Int32) then
    some ((-2 : Int32), q2.2)
  else
  (fX4_in i5 (-9 : Int32) (9 : Int32) q2.2).bind fun q3 =>
  if q3.1 = (0 : Int32) then
    some ((-2 : Int32), q3.2)
  else
  (fX4_records a0 q3.2).bind fun q4 =>
  (fX4_place i1 i2 i3 i4 q4).bind fun q5 =>
  (fX4_changes a0 q5.1 i5 q5.2).bind fun q6 =>
  some ((q6.1 + (100 : Int32)), q6.2)
  else none
theorem iX4_pay {a0 : Nat} {i1 : Int32} {i2 : Int32} {i3 : Int32} {i4 : Int32} {i5 : Int32} {w : XW} {R9 : (Int32 × XW)} (h : fX4_pay a0 i1 i2 i3 i4 i5 w = some R9) : xis w a0 4 = true := by
  unfold fX4_pay at h
  rcases xite h with ⟨hc, h⟩ | ⟨hc, h⟩
  · exact hc
  · exact absurd h (by simp)
theorem np_X4_pay : (parseMethodDescriptor yX4_pay.desc).map (fun d => d.parameters.length) = some 5 := by decide +kernel
theorem hy_X4_pay : yX4_pay.cls ≠ "java/lang/invoke/MethodHandle" ∧ yX4_pay.cls ≠ "java/lang/invoke/VarHandle" := ⟨by decide +kernel, by decide +kernel⟩
set_option maxRecDepth 20000 in
theorem eX4_pay {cx : CX} {a0 : Nat} {i1 : Int32} {i2 : Int32} {i3 : Int32} {i4 : Int32} {i5 : Int32} {w : XW} {R9 : (Int32 × XW)} (h : fX4_pay a0 i1 i2 i3 i4 i5 w = some R9) : Ct yX4_pay cX4_pay 6 (some .int) 3 64 cx [.ref a0, .int i1, .int i2, .int i3, .int i4, .int i5] w (some (.int R9.1)) R9.2 := by
  refine Ct_of (by decide +kernel) (Nat.le_of_ble_eq_true rfl) (fun K B hR => ?_)
  rw [fX4_pay] at h
  show Wx K cx 6 w.length 0 [(0, .ref a0), (1, .int i1), (2, .int i2), (3, .int i3), (4, .int i4), (5, .int i5)] [] w
  rcases xite h with ⟨hc, h⟩ | ⟨hc, h⟩
  · skip
    refine x_iload_n (pc := 0) B 2 dX4_pay_0 rfl rfl ?_
    refine x_iload_n (pc := 1) B 3 dX4_pay_1 rfl rfl ?_
    refine x_iload (pc := 2) B 4 dX4_pay_2 rfl ?_
    obtain ⟨q1, hq, h⟩ := xbind h
    refine x_callS1 (st := []) (pc := 4) B dX4_pay_4 (eX4_arePlace hq) xt_673 xt_58 np_X4_arePlace hy_X4_arePlace (Nat.le_of_ble_eq_true rfl) (Nat.le_of_ble_eq_true rfl) (Nat.le_of_ble_eq_true rfl) xt_672 xt_671 rfl ?_
    rcases xite h with ⟨hc, h⟩ | ⟨hc, h⟩
    · refine x_if_ne_f (pc := 7) B 12 dX4_pay_7 (by decide) hc ?_
      refine x_iconst (pc := 10) B dX4_pay_10 xk_iconst_m1 ?_
      exact x_iret (pc := 11) B hR dX4_pay_11 (xzI _) h
    · refine x_if_ne_t (tgt := 12) (pc := 7) B dX4_pay_7 (by decide) hc ?_
      refine x_iload_n (pc := 12) B 1 dX4_pay_12 rfl rfl ?_
      refine x_iconst (pc := 13) B dX4_pay_13 xk_iconst_0 ?_
      refine x_iconst (pc := 14) B dX4_pay_14 xk_iconst_1 ?_
      obtain ⟨q2, hq, h⟩ := xbind h
      refine x_callS1 (st := []) (pc := 15) B dX4_pay_15 (eX4_in hq) xt_639 xt_58 np_X4_in hy_X4_in (Nat.le_of_ble_eq_true rfl) (Nat.le_of_ble_eq_true rfl) (Nat.le_of_ble_eq_true rfl) xt_638 xt_637 rfl ?_
      rcases xite h with ⟨hc, h⟩ | ⟨hc, h⟩
      · refine x_if_eq_t (tgt := 33) (pc := 18) B dX4_pay_18 (by decide) hc ?_
        refine x_bipush (pc := 33) B dX4_pay_33 xk_bipush_m2 ?_
        exact x_iret (pc := 35) B hR dX4_pay_35 (xzI _) h
      · refine x_if_eq_f (pc := 18) B 33 dX4_pay_18 (by decide) hc ?_
        refine x_iload (pc := 21) B 5 dX4_pay_21 rfl ?_
        refine x_bipush (pc := 23) B dX4_pay_23 xk_bipush_m9 ?_
        refine x_bipush (pc := 25) B dX4_pay_25 xk_bipush_9 ?_
        obtain ⟨q3, hq, h⟩ := xbind h
        refine x_callS1 (st := []) (pc := 27) B dX4_pay_27 (eX4_in hq) xt_639 xt_58 np_X4_in hy_X4_in (Nat.le_of_ble_eq_true rfl) (Nat.le_of_ble_eq_true rfl) (Nat.le_of_ble_eq_true rfl) xt_638 xt_637 rfl ?_
        rcases xite h with ⟨hc, h⟩ | ⟨hc, h⟩
        · refine x_if_ne_f (pc := 30) B 36 dX4_pay_30 (by decide) hc ?_
          refine x_bipush (pc := 33) B dX4_pay_33 xk_bipush_m2 ?_
          exact x_iret (pc := 35) B hR dX4_pay_35 (xzI _) h
        · refine x_if_ne_t (tgt := 36) (pc := 30) B dX4_pay_30 (by decide) hc ?_
          refine x_aload_n (pc := 36) B 0 dX4_pay_36 rfl rfl ?_
          obtain ⟨q4, hq, h⟩ := xbind h
          refine x_callV0 (st := []) (pc := 37) B dX4_pay_37 (eX4_records hq) xt_651 xt_58 np_X4_records hy_X4_records (Nat.le_of_ble_eq_true rfl) (Nat.le_of_ble_eq_true rfl) (Nat.le_of_ble_eq_true rfl) xt_650 xt_15 xt_648 rfl (iX4_records hq) rfl ?_
          refine x_aload_n (pc := 40) B 0 dX4_pay_40 rfl rfl ?_
          refine x_iload_n (pc := 41) B 1 dX4_pay_41 rfl rfl ?_
          refine x_iload_n (pc := 42) B 2 dX4_pay_42 rfl rfl ?_
          refine x_iload_n (pc := 43) B 3 dX4_pay_43 rfl rfl ?_
          refine x_iload (pc := 44) B 4 dX4_pay_44 rfl ?_
          obtain ⟨q5, hq, h⟩ := xbind h
          refine x_callS1 (st := [.ref a0]) (pc := 46) B dX4_pay_46 (eX4_place hq) xt_676 xt_58 np_X4_place hy_X4_place (Nat.le_of_ble_eq_true rfl) (Nat.le_of_ble_eq_true rfl) (Nat.le_of_ble_eq_true rfl) xt_675 xt_674 rfl ?_
          refine x_iload (pc := 49) B 5 dX4_pay_49 rfl ?_
          obtain ⟨q6, hq, h⟩ := xbind h
          refine x_callV1 (st := []) (pc := 51) B dX4_pay_51 (eX4_changes hq) xt_666 xt_58 np_X4_changes hy_X4_changes (Nat.le_of_ble_eq_true rfl) (Nat.le_of_ble_eq_true rfl) (Nat.le_of_ble_eq_true rfl) xt_665 xt_17 xt_663 rfl (iX4_changes hq) rfl ?_
          refine x_bipush (pc := 54) B dX4_pay_54 xk_bipush_100 ?_
          refine x_iadd (pc := 56) B dX4_pay_56 ?_
          exact x_iret (pc := 57) B hR dX4_pay_57 (xzI _) h
  · exact absurd h (by simp)
def fX4_mayBelieve (a0 : Nat) (i1 : Int32) (i2 : Int32) (i3 : Int32) (w : XW) : Option (Int32 × XW) := if xis w a0 4 = true then
  (fX4_isOne i1 w).bind fun q1 =>
  if q1.1 = (0 : Int32) then
    some ((-1 : Int32), q1.2)
  else
  (fX4_mayWeigh a0 ((57 : Int32) + ((3 : Int32) * i1)) i2 i3 q1.2).bind fun q2 =>
  some (q2.1, q2.2)
  else none
theorem iX4_mayBelieve {a0 : Nat} {i1 : Int32} {i2 : Int32} {i3 : Int32} {w : XW} {R9 : (Int32 × XW)} (h : fX4_mayBelieve a0 i1 i2 i3 w = some R9) : xis w a0 4 = true := by
  unfold fX4_mayBelieve at h
  rcases xite h with ⟨hc, h⟩ | ⟨hc, h⟩
  · exact hc
  · exact absurd h (by simp)
theorem np_X4_mayBelieve : (parseMethodDescriptor yX4_mayBelieve.desc).map (fun d => d.parameters.length) = some 3 := by decide +kernel
theorem hy_X4_mayBelieve : yX4_mayBelieve.cls ≠ "java/lang/invoke/MethodHandle" ∧ yX4_mayBelieve.cls ≠ "java/lang/invoke/VarHandle" := ⟨by decide +kernel, by decide +kernel⟩
set_option maxRecDepth 20000 in
theorem eX4_mayBelieve {cx : CX} {a0 : Nat} {i1 : Int32} {i2 : Int32} {i3 : Int32} {w : XW} {R9 : (Int32 × XW)} (h : fX4_mayBelieve a0 i1 i2 i3 w = some R9) : Ct yX4_mayBelieve cX4_mayBelieve 4 (some .int) 3 65 cx [.ref a0, .int i1, .int i2, .int i3] w (some (.int R9.1)) R9.2 := by
  refine Ct_of (by decide +kernel) (Nat.le_of_ble_eq_true rfl) (fun K B hR => ?_)
  rw [fX4_mayBelieve] at h
  show Wx K cx 4 w.length 0 [(0, .ref a0), (1, .int i1), (2, .int i2), (3, .int i3)] [] w
  rcases xite h with ⟨hc, h⟩ | ⟨hc, h⟩
  · skip
    refine x_iload_n (pc := 0) B 1 dX4_mayBelieve_0 rfl rfl ?_
    obtain ⟨q1, hq, h⟩ := xbind h
    refine x_callS1 (st := []) (pc := 1) B dX4_mayBelieve_1 (eX4_isOne hq) xt_662 xt_58 np_X4_isOne hy_X4_isOne (Nat.le_of_ble_eq_true rfl) (Nat.le_of_ble_eq_true rfl) (Nat.le_of_ble_eq_true rfl) xt_661 xt_660 rfl ?_
    rcases xite h with ⟨hc, h⟩ | ⟨hc, h⟩
    · refine x_if_ne_f (pc := 4) B 11 dX4_mayBelieve_4 (by decide) hc ?_
      refine x_iconst (pc := 7) B dX4_mayBelieve_7 xk_iconst_m1 ?_
      refine x_goto (tgt := 23) (pc := 8) B dX4_mayBelieve_8 (by decide) ?_
      exact x_iret (pc := 23) B hR dX4_mayBelieve_23 (xzI _) h
    · refine x_if_ne_t (tgt := 11) (pc := 4) B dX4_mayBelieve_4 (by decide) hc ?_
      refine x_aload_n (pc := 11) B 0 dX4_mayBelieve_11 rfl rfl ?_
      refine x_bipush (pc := 12) B dX4_mayBelieve_12 xk_bipush_57 ?_
      refine x_iconst (pc := 14) B dX4_mayBelieve_14 xk_iconst_3 ?_
      refine x_iload_n (pc := 15) B 1 dX4_mayBelieve_15 rfl rfl ?_
      refine x_imul (pc := 16) B dX4_mayBelieve_16 ?_
      refine x_iadd (pc := 17) B dX4_mayBelieve_17 ?_
      refine x_iload_n (pc := 18) B 2 dX4_mayBelieve_18 rfl rfl ?_
      refine x_iload_n (pc := 19) B 3 dX4_mayBelieve_19 rfl rfl ?_
      obtain ⟨q2, hq, h⟩ := xbind h
      refine x_callV1 (st := []) (pc := 20) B dX4_mayBelieve_20 (eX4_mayWeigh hq) xt_659 xt_58 np_X4_mayWeigh hy_X4_mayWeigh (Nat.le_of_ble_eq_true rfl) (Nat.le_of_ble_eq_true rfl) (Nat.le_of_ble_eq_true rfl) xt_658 xt_16 xt_656 rfl (iX4_mayWeigh hq) rfl ?_
      exact x_iret (pc := 23) B hR dX4_mayBelieve_23 (xzI _) h
  · exact absurd h (by simp)
def fX4_believe (a0 : Nat) (i1 : Int32) (i2 : Int32) (i3 : Int32) (w : XW) : Option (Int32 × XW) := if xis w a0 4 = true then
  (fX4_mayBelieve a0 i1 i2 i3 w).bind fun q1 =>
  if q1.1 = (0 : Int32) then
    (fX4_records a0 q1.2).bind fun q2 =>
    (fX4_changes a0 (((57 : Int32) + ((3 : Int32) * i1)) + i2) i3 q2).bind fun q3 =>
    some (q3.1, q3.2)
  else
  some (q1.1, q1.2)
  else none
theorem iX4_believe {a0 : Nat} {i1 : Int32} {i2 : Int32} {i3 : Int32} {w : XW} {R9 : (Int32 × XW)} (h : fX4_believe a0 i1 i2 i3 w = some R9) : xis w a0 4 = true := by
  unfold fX4_believe at h
  rcases xite h with ⟨hc, h⟩ | ⟨hc, h⟩
  · exact hc
  · exact absurd h (by simp)
theorem np_X4_believe : (parseMethodDescriptor yX4_believe.desc).map (fun d => d.parameters.length) = some 3 := by decide +kernel
theorem hy_X4_believe : yX4_believe.cls ≠ "java/lang/invoke/MethodHandle" ∧ yX4_believe.cls ≠ "java/lang/invoke/VarHandle" := ⟨by decide +kernel, by decide +kernel⟩
set_option maxRecDepth 20000 in
theorem eX4_believe {cx : CX} {a0 : Nat} {i1 : Int32} {i2 : Int32} {i3 : Int32} {w : XW} {R9 : (Int32 × XW)} (h : fX4_believe a0 i1 i2 i3 w = some R9) : Ct yX4_believe cX4_believe 5 (some .int) 4 88 cx [.ref a0, .int i1, .int i2, .int i3] w (some (.int R9.1)) R9.2 := by
  refine Ct_of (by decide +kernel) (Nat.le_of_ble_eq_true rfl) (fun K B hR => ?_)
  rw [fX4_believe] at h
  show Wx K cx 5 w.length 0 [(0, .ref a0), (1, .int i1), (2, .int i2), (3, .int i3)] [] w
  rcases xite h with ⟨hc, h⟩ | ⟨hc, h⟩
  · skip
    refine x_aload_n (pc := 0) B 0 dX4_believe_0 rfl rfl ?_
    refine x_iload_n (pc := 1) B 1 dX4_believe_1 rfl rfl ?_
    refine x_iload_n (pc := 2) B 2 dX4_believe_2 rfl rfl ?_
    refine x_iload_n (pc := 3) B 3 dX4_believe_3 rfl rfl ?_
    obtain ⟨q1, hq, h⟩ := xbind h
    refine x_callV1 (st := []) (pc := 4) B dX4_believe_4 (eX4_mayBelieve hq) xt_684 xt_58 np_X4_mayBelieve hy_X4_mayBelieve (Nat.le_of_ble_eq_true rfl) (Nat.le_of_ble_eq_true rfl) (Nat.le_of_ble_eq_true rfl) xt_683 xt_18 xt_681 rfl (iX4_mayBelieve hq) rfl ?_
    refine x_istore (L1 := [(4, .int q1.1), (0, .ref a0), (1, .int i1), (2, .int i2), (3, .int i3)]) (pc := 7) B dX4_believe_7 (by decide) rfl ?_
    refine x_iload (pc := 9) B 0 dX4_believe_9 rfl ?_
    rcases xite h with ⟨hc, h⟩ | ⟨hc, h⟩
    · refine x_if_eq_t (tgt := 17) (pc := 11) B dX4_believe_11 (by decide) hc ?_
      refine x_aload_n (pc := 17) B 1 dX4_believe_17 rfl rfl ?_
      obtain ⟨q2, hq, h⟩ := xbind h
      refine x_callV0 (st := []) (pc := 18) B dX4_believe_18 (eX4_records hq) xt_651 xt_58 np_X4_records hy_X4_records (Nat.le_of_ble_eq_true rfl) (Nat.le_of_ble_eq_true rfl) (Nat.le_of_ble_eq_true rfl) xt_650 xt_15 xt_648 rfl (iX4_records hq) rfl ?_
      refine x_aload_n (pc := 21) B 1 dX4_believe_21 rfl rfl ?_
      refine x_bipush (pc := 22) B dX4_believe_22 xk_bipush_57 ?_
      refine x_iconst (pc := 24) B dX4_believe_24 xk_iconst_3 ?_
      refine x_iload_n (pc := 25) B 2 dX4_believe_25 rfl rfl ?_
      refine x_imul (pc := 26) B dX4_believe_26 ?_
      refine x_iadd (pc := 27) B dX4_believe_27 ?_
      refine x_iload_n (pc := 28) B 3 dX4_believe_28 rfl rfl ?_
      refine x_iadd (pc := 29) B dX4_believe_29 ?_
      refine x_iload_n (pc := 30) B 4 dX4_believe_30 rfl rfl ?_
      obtain ⟨q3, hq, h⟩ := xbind h
      refine x_callV1 (st := []) (pc := 31) B dX4_believe_31 (eX4_changes hq) xt_666 xt_58 np_X4_changes hy_X4_changes (Nat.le_of_ble_eq_true rfl) (Nat.le_of_ble_eq_true rfl) (Nat.le_of_ble_eq_true rfl) xt_665 xt_17 xt_663 rfl (iX4_changes hq) rfl ?_
      exact x_iret (pc := 34) B hR dX4_believe_34 (xzI _) h
    · refine x_if_eq_f (pc := 11) B 17 dX4_believe_11 (by decide) hc ?_
      refine x_iload (pc := 14) B 0 dX4_believe_14 rfl ?_
      exact x_iret (pc := 16) B hR dX4_believe_16 (xzI _) h
  · exact absurd h (by simp)
def fX4_send (a0 : Nat) (i1 : Int32) (i2 : Int32) (w : XW) : Option (Int32 × XW) := if xis w a0 4 = true then
  (fX4_isOne i1 w).bind fun q1 =>
  if q1.1 = (0 : Int32) then
    some ((-1 : Int32), q1.2)
  else
  (fX4_isOne i2 q1.2).bind fun q2 =>
  if q2.1 = (0 : Int32) then
    some ((-1 : Int32), q2.2)
  else
  (fX4_records a0 q2.2).bind fun q3 =>
  (fX4_changes a0 ((66 : Int32) + i1) i2 q3).bind fun q4 =>
  some (q4.1, q4.2)
  else none
theorem iX4_send {a0 : Nat} {i1 : Int32} {i2 : Int32} {w : XW} {R9 : (Int32 × XW)} (h : fX4_send a0 i1 i2 w = some R9) : xis w a0 4 = true := by
  unfold fX4_send at h
  rcases xite h with ⟨hc, h⟩ | ⟨hc, h⟩
  · exact hc
  · exact absurd h (by simp)
theorem np_X4_send : (parseMethodDescriptor yX4_send.desc).map (fun d => d.parameters.length) = some 2 := by decide +kernel
theorem hy_X4_send : yX4_send.cls ≠ "java/lang/invoke/MethodHandle" ∧ yX4_send.cls ≠ "java/lang/invoke/VarHandle" := ⟨by decide +kernel, by decide +kernel⟩
set_option maxRecDepth 20000 in
theorem eX4_send {cx : CX} {a0 : Nat} {i1 : Int32} {i2 : Int32} {w : XW} {R9 : (Int32 × XW)} (h : fX4_send a0 i1 i2 w = some R9) : Ct yX4_send cX4_send 3 (some .int) 2 45 cx [.ref a0, .int i1, .int i2] w (some (.int R9.1)) R9.2 := by
  refine Ct_of (by decide +kernel) (Nat.le_of_ble_eq_true rfl) (fun K B hR => ?_)
  rw [fX4_send] at h
  show Wx K cx 3 w.length 0 [(0, .ref a0), (1, .int i1), (2, .int i2)] [] w
  rcases xite h with ⟨hc, h⟩ | ⟨hc, h⟩
  · skip
    refine x_iload_n (pc := 0) B 1 dX4_send_0 rfl rfl ?_
    obtain ⟨q1, hq, h⟩ := xbind h
    refine x_callS1 (st := []) (pc := 1) B dX4_send_1 (eX4_isOne hq) xt_662 xt_58 np_X4_isOne hy_X4_isOne (Nat.le_of_ble_eq_true rfl) (Nat.le_of_ble_eq_true rfl) (Nat.le_of_ble_eq_true rfl) xt_661 xt_660 rfl ?_
    rcases xite h with ⟨hc, h⟩ | ⟨hc, h⟩
    · refine x_if_eq_t (tgt := 14) (pc := 4) B dX4_send_4 (by decide) hc ?_
      refine x_iconst (pc := 14) B dX4_send_14 xk_iconst_m1 ?_
      exact x_iret (pc := 15) B hR dX4_send_15 (xzI _) h
    · refine x_if_eq_f (pc := 4) B 14 dX4_send_4 (by decide) hc ?_
      refine x_iload_n (pc := 7) B 2 dX4_send_7 rfl rfl ?_
      obtain ⟨q2, hq, h⟩ := xbind h
      refine x_callS1 (st := []) (pc := 8) B dX4_send_8 (eX4_isOne hq) xt_662 xt_58 np_X4_isOne hy_X4_isOne (Nat.le_of_ble_eq_true rfl) (Nat.le_of_ble_eq_true rfl) (Nat.le_of_ble_eq_true rfl) xt_661 xt_660 rfl ?_
      rcases xite h with ⟨hc, h⟩ | ⟨hc, h⟩
      · refine x_if_ne_f (pc := 11) B 16 dX4_send_11 (by decide) hc ?_
        refine x_iconst (pc := 14) B dX4_send_14 xk_iconst_m1 ?_
        exact x_iret (pc := 15) B hR dX4_send_15 (xzI _) h
      · refine x_if_ne_t (tgt := 16) (pc := 11) B dX4_send_11 (by decide) hc ?_
        refine x_aload_n (pc := 16) B 0 dX4_send_16 rfl rfl ?_
        obtain ⟨q3, hq, h⟩ := xbind h
        refine x_callV0 (st := []) (pc := 17) B dX4_send_17 (eX4_records hq) xt_651 xt_58 np_X4_records hy_X4_records (Nat.le_of_ble_eq_true rfl) (Nat.le_of_ble_eq_true rfl) (Nat.le_of_ble_eq_true rfl) xt_650 xt_15 xt_648 rfl (iX4_records hq) rfl ?_
        refine x_aload_n (pc := 20) B 0 dX4_send_20 rfl rfl ?_
        refine x_bipush (pc := 21) B dX4_send_21 xk_bipush_66 ?_
        refine x_iload_n (pc := 23) B 1 dX4_send_23 rfl rfl ?_
        refine x_iadd (pc := 24) B dX4_send_24 ?_
        refine x_iload_n (pc := 25) B 2 dX4_send_25 rfl rfl ?_
        obtain ⟨q4, hq, h⟩ := xbind h
        refine x_callV1 (st := []) (pc := 26) B dX4_send_26 (eX4_changes hq) xt_666 xt_58 np_X4_changes hy_X4_changes (Nat.le_of_ble_eq_true rfl) (Nat.le_of_ble_eq_true rfl) (Nat.le_of_ble_eq_true rfl) xt_665 xt_17 xt_663 rfl (iX4_changes hq) rfl ?_
        exact x_iret (pc := 29) B hR dX4_send_29 (xzI _) h
  · exact absurd h (by simp)
def fX4_answer (a0 : Nat) (i1 : Int32) (i2 : Int32) (w : XW) : Option (Int32 × XW) := if xis w a0 4 = true then
  (fX4_isOne i1 w).bind fun q1 =>
  if q1.1 = (0 : Int32) then
    some ((-1 : Int32), q1.2)
  else
  (fX4_isOne i2 q1.2).bind fun q2 =>
  if q2.1 = (0 : Int32) then
    some ((-1 : Int32), q2.2)
  else
  (fX4_records a0 q2.2).bind fun q3 =>
  (fX4_changes a0 ((69 : Int32) + i1) i2 q3).bind fun q4 =>
  some (q4.1, q4.2)
  else none
theorem iX4_answer {a0 : Nat} {i1 : Int32} {i2 : Int32} {w : XW} {R9 : (Int32 × XW)} (h : fX4_answer a0 i1 i2 w = some R9) : xis w a0 4 = true := by
  unfold fX4_answer at h
  rcases xite h with ⟨hc, h⟩ | ⟨hc, h⟩
  · exact hc
  · exact absurd h (by simp)
theorem np_X4_answer : (parseMethodDescriptor yX4_answer.desc).map (fun d => d.parameters.length) = some 2 := by decide +kernel
theorem hy_X4_answer : yX4_answer.cls ≠ "java/lang/invoke/MethodHandle" ∧ yX4_answer.cls ≠ "java/lang/invoke/VarHandle" := ⟨by decide +kernel, by decide +kernel⟩
set_option maxRecDepth 20000 in
theorem eX4_answer {cx : CX} {a0 : Nat} {i1 : Int32} {i2 : Int32} {w : XW} {R9 : (Int32 × XW)} (h : fX4_answer a0 i1 i2 w = some R9) : Ct yX4_answer cX4_answer 3 (some .int) 2 45 cx [.ref a0, .int i1, .int i2] w (some (.int R9.1)) R9.2 := by
  refine Ct_of (by decide +kernel) (Nat.le_of_ble_eq_true rfl) (fun K B hR => ?_)
  rw [fX4_answer] at h
  show Wx K cx 3 w.length 0 [(0, .ref a0), (1, .int i1), (2, .int i2)] [] w
  rcases xite h with ⟨hc, h⟩ | ⟨hc, h⟩
  · skip
    refine x_iload_n (pc := 0) B 1 dX4_answer_0 rfl rfl ?_
    obtain ⟨q1, hq, h⟩ := xbind h
    refine x_callS1 (st := []) (pc := 1) B dX4_answer_1 (eX4_isOne hq) xt_662 xt_58 np_X4_isOne hy_X4_isOne (Nat.le_of_ble_eq_true rfl) (Nat.le_of_ble_eq_true rfl) (Nat.le_of_ble_eq_true rfl) xt_661 xt_660 rfl ?_
    rcases xite h with ⟨hc, h⟩ | ⟨hc, h⟩
    · refine x_if_eq_t (tgt := 14) (pc := 4) B dX4_answer_4 (by decide) hc ?_
      refine x_iconst (pc := 14) B dX4_answer_14 xk_iconst_m1 ?_
      exact x_iret (pc := 15) B hR dX4_answer_15 (xzI _) h
    · refine x_if_eq_f (pc := 4) B 14 dX4_answer_4 (by decide) hc ?_
      refine x_iload_n (pc := 7) B 2 dX4_answer_7 rfl rfl ?_
      obtain ⟨q2, hq, h⟩ := xbind h
      refine x_callS1 (st := []) (pc := 8) B dX4_answer_8 (eX4_isOne hq) xt_662 xt_58 np_X4_isOne hy_X4_isOne (Nat.le_of_ble_eq_true rfl) (Nat.le_of_ble_eq_true rfl) (Nat.le_of_ble_eq_true rfl) xt_661 xt_660 rfl ?_
      rcases xite h with ⟨hc, h⟩ | ⟨hc, h⟩
      · refine x_if_ne_f (pc := 11) B 16 dX4_answer_11 (by decide) hc ?_
        refine x_iconst (pc := 14) B dX4_answer_14 xk_iconst_m1 ?_
        exact x_iret (pc := 15) B hR dX4_answer_15 (xzI _) h
      · refine x_if_ne_t (tgt := 16) (pc := 11) B dX4_answer_11 (by decide) hc ?_
        refine x_aload_n (pc := 16) B 0 dX4_answer_16 rfl rfl ?_
        obtain ⟨q3, hq, h⟩ := xbind h
        refine x_callV0 (st := []) (pc := 17) B dX4_answer_17 (eX4_records hq) xt_651 xt_58 np_X4_records hy_X4_records (Nat.le_of_ble_eq_true rfl) (Nat.le_of_ble_eq_true rfl) (Nat.le_of_ble_eq_true rfl) xt_650 xt_15 xt_648 rfl (iX4_records hq) rfl ?_
        refine x_aload_n (pc := 20) B 0 dX4_answer_20 rfl rfl ?_
        refine x_bipush (pc := 21) B dX4_answer_21 xk_bipush_69 ?_
        refine x_iload_n (pc := 23) B 1 dX4_answer_23 rfl rfl ?_
        refine x_iadd (pc := 24) B dX4_answer_24 ?_
        refine x_iload_n (pc := 25) B 2 dX4_answer_25 rfl rfl ?_
        obtain ⟨q4, hq, h⟩ := xbind h
        refine x_callV1 (st := []) (pc := 26) B dX4_answer_26 (eX4_changes hq) xt_666 xt_58 np_X4_changes hy_X4_changes (Nat.le_of_ble_eq_true rfl) (Nat.le_of_ble_eq_true rfl) (Nat.le_of_ble_eq_true rfl) xt_665 xt_17 xt_663 rfl (iX4_changes hq) rfl ?_
        exact x_iret (pc := 29) B hR dX4_answer_29 (xzI _) h
  · exact absurd h (by simp)
def fX4_looksAt_4 : Nat → Nat → Int32 → Int32 → XW → Option XW
  | 0, _, _, _, _ => none
  | g + 1, a0, i2, i3, w =>
    if i3 < (0 : Int32) then
      some w
    else
    (xgR w a0 4 10).bind fun v1 =>
    (xsI w v1 i3 (i2 - i2 / (3 : Int32) * (3 : Int32))).bind fun w2 =>
    fX4_looksAt_4 g a0 (i2 / (3 : Int32)) (i3 + (-1 : Int32)) w2
set_option maxRecDepth 20000 in
theorem pX4_looksAt_4 {K : KX} {cx : CX} {nn : Nat} {R9 : XW} (B : XB K cx RX4 cX4_looksAt 4 nn 0 0) (hR : XR K cx nn none none R9) : ∀ (g : Nat) (a0 : Nat) (i2 : Int32) (i3 : Int32) (w : XW), fX4_looksAt_4 g a0 i2 i3 w = some R9 → Wx K cx 4 nn 4 [(0, .ref a0), (2, .int i2), (3, .int i3)] [] w := by
  intro g
  induction g with
  | zero =>
    intro a0 i2 i3 w h
    exact absurd (show (none : Option XW) = some R9 from h) (by simp)
  | succ g ih =>
    intro a0 i2 i3 w h
    rw [fX4_looksAt_4] at h
    refine x_iload_n (pc := 4) B 2 dX4_looksAt_4 rfl rfl ?_
    rcases xite h with ⟨hc, h⟩ | ⟨hc, h⟩
    · refine x_if_lt_t (tgt := 27) (pc := 5) B dX4_looksAt_5 (by decide) hc ?_
      exact x_vret (pc := 27) B hR dX4_looksAt_27 h
    · refine x_if_lt_f (pc := 5) B 27 dX4_looksAt_5 (by decide) hc ?_
      refine x_aload_n (pc := 8) B 0 dX4_looksAt_8 rfl rfl ?_
      obtain ⟨v1, hv, h⟩ := xbind h
      refine x_getR (k0 := 10) (pc := 9) B dX4_looksAt_9 rfl xi_4 (by decide) ⟨rfl, rfl, rfl⟩ xt_612 hv ?_
      refine x_iload_n (pc := 12) B 2 dX4_looksAt_12 rfl rfl ?_
      refine x_iload_n (pc := 13) B 1 dX4_looksAt_13 rfl rfl ?_
      refine x_iconst (pc := 14) B dX4_looksAt_14 xk_iconst_3 ?_
      refine x_irem (pc := 15) B dX4_looksAt_15 (by decide) ?_
      obtain ⟨w2, hv, h⟩ := xbind h
      refine x_iast (pc := 16) B dX4_looksAt_16 hv ?_
      refine x_iload_n (pc := 17) B 1 dX4_looksAt_17 rfl rfl ?_
      refine x_iconst (pc := 18) B dX4_looksAt_18 xk_iconst_3 ?_
      refine x_idiv (pc := 19) B dX4_looksAt_19 (by decide) ?_
      refine x_istore_n (L1 := [(2, .int (i2 / (3 : Int32))), (0, .ref a0), (3, .int i3)]) (pc := 20) B dX4_looksAt_20 rfl (by decide) rfl ?_
      refine x_iinc (L1 := [(3, .int (i3 + (-1 : Int32))), (2, .int (i2 / (3 : Int32))), (0, .ref a0)]) (pc := 21) B 2 dX4_looksAt_21 rfl (congrArg _ xk_iconst_m1) (by decide) rfl ?_
      refine x_goto (tgt := 4) (pc := 24) B dX4_looksAt_24 (by decide) ?_
      refine x_sub (L1 := [(0, .ref a0), (2, .int (i2 / (3 : Int32))), (3, .int (i3 + (-1 : Int32)))]) [2, 1, 0] rfl ?_
      exact ih a0 (i2 / (3 : Int32)) (i3 + (-1 : Int32)) w2 h
def fX4_looksAt (a0 : Nat) (i1 : Int32) (w : XW) : Option XW := if xis w a0 4 = true then
  fX4_looksAt_4 1000 a0 i1 (5 : Int32) w
  else none
theorem iX4_looksAt {a0 : Nat} {i1 : Int32} {w : XW} {R9 : XW} (h : fX4_looksAt a0 i1 w = some R9) : xis w a0 4 = true := by
  unfold fX4_looksAt at h
  rcases xite h with ⟨hc, h⟩ | ⟨hc, h⟩
  · exact hc
  · exact absurd h (by simp)
theorem np_X4_looksAt : (parseMethodDescriptor yX4_looksAt.desc).map (fun d => d.parameters.length) = some 1 := by decide +kernel
theorem hy_X4_looksAt : yX4_looksAt.cls ≠ "java/lang/invoke/MethodHandle" ∧ yX4_looksAt.cls ≠ "java/lang/invoke/VarHandle" := ⟨by decide +kernel, by decide +kernel⟩
set_option maxRecDepth 20000 in
theorem eX4_looksAt {cx : CX} {a0 : Nat} {i1 : Int32} {w : XW} {R9 : XW} (h : fX4_looksAt a0 i1 w = some R9) : Ct yX4_looksAt cX4_looksAt 4 none 0 0 cx [.ref a0, .int i1] w none R9 := by
  refine Ct_of (by decide +kernel) (Nat.le_of_ble_eq_true rfl) (fun K B hR => ?_)
  rw [fX4_looksAt] at h
  show Wx K cx 4 w.length 0 [(0, .ref a0), (1, .int i1)] [] w
  rcases xite h with ⟨hc, h⟩ | ⟨hc, h⟩
  · skip
    refine x_iload_n (pc := 0) B 1 dX4_looksAt_0 rfl rfl ?_
    refine x_istore_n (L1 := [(2, .int i1), (0, .ref a0), (1, .int i1)]) (pc := 1) B dX4_looksAt_1 rfl (by decide) rfl ?_
    refine x_iconst (pc := 2) B dX4_looksAt_2 xk_iconst_5 ?_
    refine x_istore_n (L1 := [(3, .int (5 : Int32)), (2, .int i1), (0, .ref a0), (1, .int i1)]) (pc := 3) B dX4_looksAt_3 rfl (by decide) rfl ?_
    refine x_sub (L1 := [(0, .ref a0), (2, .int i1), (3, .int (5 : Int32))]) [2, 1, 0] rfl ?_
    exact pX4_looksAt_4 B hR 1000 a0 i1 (5 : Int32) w h
  · exact absurd h (by simp)
def fX4_isThere (a0 : Nat) (i1 : Int32) (w : XW) : Option (Int32 × XW) := if xis w a0 4 = true then
  (xgR w a0 4 0).bind fun v1 =>
  (xaI w v1 i1).bind fun v2 =>
  if v2 ≤ (0 : Int32) then
    some ((0 : Int32), w)
  else
  some ((1 : Int32), w)
  else none
theorem iX4_isThere {a0 : Nat} {i1 : Int32} {w : XW} {R9 : (Int32 × XW)} (h : fX4_isThere a0 i1 w = some R9) : xis w a0 4 = true := by
  unfold fX4_isThere at h
  rcases xite h with ⟨hc, h⟩ | ⟨hc, h⟩
  · exact hc
  · exact absurd h (by simp)
theorem np_X4_isThere : (parseMethodDescriptor yX4_isThere.desc).map (fun d => d.parameters.length) = some 1 := by decide +kernel
theorem hy_X4_isThere : yX4_isThere.cls ≠ "java/lang/invoke/MethodHandle" ∧ yX4_isThere.cls ≠ "java/lang/invoke/VarHandle" := ⟨by decide +kernel, by decide +kernel⟩
set_option maxRecDepth 20000 in
theorem eX4_isThere {cx : CX} {a0 : Nat} {i1 : Int32} {w : XW} {R9 : (Int32 × XW)} (h : fX4_isThere a0 i1 w = some R9) : Ct yX4_isThere cX4_isThere 2 (some .boolean) 0 0 cx [.ref a0, .int i1] w (some (.int R9.1)) R9.2 := by
  refine Ct_of (by decide +kernel) (Nat.le_of_ble_eq_true rfl) (fun K B hR => ?_)
  rw [fX4_isThere] at h
  show Wx K cx 2 w.length 0 [(0, .ref a0), (1, .int i1)] [] w
  rcases xite h with ⟨hc, h⟩ | ⟨hc, h⟩
  · skip
    refine x_aload_n (pc := 0) B 0 dX4_isThere_0 rfl rfl ?_
    obtain ⟨v1, hv, h⟩ := xbind h
    refine x_getR (k0 := 0) (pc := 1) B dX4_isThere_1 rfl xi_4 (by decide) ⟨rfl, rfl, rfl⟩ xt_602 hv ?_
    refine x_iload_n (pc := 4) B 1 dX4_isThere_4 rfl rfl ?_
    obtain ⟨v2, hv, h⟩ := xbind h
    refine x_iald (pc := 5) B dX4_isThere_5 hv ?_
    rcases xite h with ⟨hc, h⟩ | ⟨hc, h⟩
    · refine x_if_le_t (tgt := 13) (pc := 6) B dX4_isThere_6 (by decide) hc ?_
      refine x_iconst (pc := 13) B dX4_isThere_13 xk_iconst_0 ?_
      exact x_iret (pc := 14) B hR dX4_isThere_14 xz0 h
    · refine x_if_le_f (pc := 6) B 13 dX4_isThere_6 (by decide) hc ?_
      refine x_iconst (pc := 9) B dX4_isThere_9 xk_iconst_1 ?_
      refine x_goto (tgt := 14) (pc := 10) B dX4_isThere_10 (by decide) ?_
      exact x_iret (pc := 14) B hR dX4_isThere_14 xz1 h
  · exact absurd h (by simp)
def fX4_has (a0 : Nat) (i1 : Int32) (i2 : Int32) (w : XW) : Option (Int32 × XW) := if xis w a0 4 = true then
  (xgR w a0 4 0).bind fun v1 =>
  (xgR w a0 4 10).bind fun v2 =>
  (xaI w v2 ((3 : Int32) + i2)).bind fun v3 =>
  (fX4_place (0 : Int32) i1 i2 v3 w).bind fun q4 =>
  (xaI q4.2 v1 q4.1).bind fun v5 =>
  some (v5, q4.2)
  else none
theorem iX4_has {a0 : Nat} {i1 : Int32} {i2 : Int32} {w : XW} {R9 : (Int32 × XW)} (h : fX4_has a0 i1 i2 w = some R9) : xis w a0 4 = true := by
  unfold fX4_has at h
  rcases xite h with ⟨hc, h⟩ | ⟨hc, h⟩
  · exact hc
  · exact absurd h (by simp)
theorem np_X4_has : (parseMethodDescriptor yX4_has.desc).map (fun d => d.parameters.length) = some 2 := by decide +kernel
theorem hy_X4_has : yX4_has.cls ≠ "java/lang/invoke/MethodHandle" ∧ yX4_has.cls ≠ "java/lang/invoke/VarHandle" := ⟨by decide +kernel, by decide +kernel⟩
set_option maxRecDepth 20000 in
theorem eX4_has {cx : CX} {a0 : Nat} {i1 : Int32} {i2 : Int32} {w : XW} {R9 : (Int32 × XW)} (h : fX4_has a0 i1 i2 w = some R9) : Ct yX4_has cX4_has 3 (some .int) 1 23 cx [.ref a0, .int i1, .int i2] w (some (.int R9.1)) R9.2 := by
  refine Ct_of (by decide +kernel) (Nat.le_of_ble_eq_true rfl) (fun K B hR => ?_)
  rw [fX4_has] at h
  show Wx K cx 3 w.length 0 [(0, .ref a0), (1, .int i1), (2, .int i2)] [] w
  rcases xite h with ⟨hc, h⟩ | ⟨hc, h⟩
  · skip
    refine x_aload_n (pc := 0) B 0 dX4_has_0 rfl rfl ?_
    obtain ⟨v1, hv, h⟩ := xbind h
    refine x_getR (k0 := 0) (pc := 1) B dX4_has_1 rfl xi_4 (by decide) ⟨rfl, rfl, rfl⟩ xt_602 hv ?_
    refine x_iconst (pc := 4) B dX4_has_4 xk_iconst_0 ?_
    refine x_iload_n (pc := 5) B 1 dX4_has_5 rfl rfl ?_
    refine x_iload_n (pc := 6) B 2 dX4_has_6 rfl rfl ?_
    refine x_aload_n (pc := 7) B 0 dX4_has_7 rfl rfl ?_
    obtain ⟨v2, hv, h⟩ := xbind h
    refine x_getR (k0 := 10) (pc := 8) B dX4_has_8 rfl xi_4 (by decide) ⟨rfl, rfl, rfl⟩ xt_612 hv ?_
    refine x_iconst (pc := 11) B dX4_has_11 xk_iconst_3 ?_
    refine x_iload_n (pc := 12) B 2 dX4_has_12 rfl rfl ?_
    refine x_iadd (pc := 13) B dX4_has_13 ?_
    obtain ⟨v3, hv, h⟩ := xbind h
    refine x_iald (pc := 14) B dX4_has_14 hv ?_
    obtain ⟨q4, hq, h⟩ := xbind h
    refine x_callS1 (st := [.ref v1]) (pc := 15) B dX4_has_15 (eX4_place hq) xt_676 xt_58 np_X4_place hy_X4_place (Nat.le_of_ble_eq_true rfl) (Nat.le_of_ble_eq_true rfl) (Nat.le_of_ble_eq_true rfl) xt_675 xt_674 rfl ?_
    obtain ⟨v5, hv, h⟩ := xbind h
    refine x_iald (pc := 18) B dX4_has_18 hv ?_
    exact x_iret (pc := 19) B hR dX4_has_19 (xzI _) h
  · exact absurd h (by simp)
def fX4_most_4 : Nat → Nat → Int32 → Int32 → Int32 → XW → Option (Int32 × XW)
  | 0, _, _, _, _, _ => none
  | g + 1, a0, i1, i2, i3, w =>
    if (3 : Int32) ≤ i3 then
      some (i2, w)
    else
    (fX4_has a0 i1 i3 w).bind fun q1 =>
    (fX4_has a0 i1 i2 q1.2).bind fun q2 =>
    if q1.1 ≤ q2.1 then
      fX4_most_4 g a0 i1 i2 (i3 + (1 : Int32)) q2.2
    else
    fX4_most_4 g a0 i1 i3 (i3 + (1 : Int32)) q2.2
set_option maxRecDepth 20000 in
theorem pX4_most_4 {K : KX} {cx : CX} {nn : Nat} {R9 : Int32 × XW} (B : XB K cx RX4 cX4_most 4 nn 2 45) (hR : XR K cx nn (some .int) (some (.int R9.1)) R9.2) : ∀ (g : Nat) (a0 : Nat) (i1 : Int32) (i2 : Int32) (i3 : Int32) (w : XW), fX4_most_4 g a0 i1 i2 i3 w = some R9 → Wx K cx 4 nn 4 [(0, .ref a0), (1, .int i1), (2, .int i2), (3, .int i3)] [] w := by
  intro g
  induction g with
  | zero =>
    intro a0 i1 i2 i3 w h
    exact absurd (show (none : Option (Int32 × XW)) = some R9 from h) (by simp)
  | succ g ih =>
    intro a0 i1 i2 i3 w h
    rw [fX4_most_4] at h
    refine x_iload_n (pc := 4) B 3 dX4_most_4 rfl rfl ?_
    refine x_iconst (pc := 5) B dX4_most_5 xk_iconst_3 ?_
    rcases xite h with ⟨hc, h⟩ | ⟨hc, h⟩
    · refine x_icmp_ge_t (tgt := 36) (pc := 6) B dX4_most_6 (by decide) hc ?_
      refine x_iload_n (pc := 36) B 2 dX4_most_36 rfl rfl ?_
      exact x_iret (pc := 37) B hR dX4_most_37 (xzI _) h
    · refine x_icmp_ge_f (pc := 6) B 36 dX4_most_6 (by decide) hc ?_
      refine x_aload_n (pc := 9) B 0 dX4_most_9 rfl rfl ?_
      refine x_iload_n (pc := 10) B 1 dX4_most_10 rfl rfl ?_
      refine x_iload_n (pc := 11) B 3 dX4_most_11 rfl rfl ?_
      obtain ⟨q1, hq, h⟩ := xbind h
      refine x_callV1 (st := []) (pc := 12) B dX4_most_12 (eX4_has hq) xt_724 xt_58 np_X4_has hy_X4_has (Nat.le_of_ble_eq_true rfl) (Nat.le_of_ble_eq_true rfl) (Nat.le_of_ble_eq_true rfl) xt_723 xt_25 xt_721 rfl (iX4_has hq) rfl ?_
      refine x_aload_n (pc := 15) B 0 dX4_most_15 rfl rfl ?_
      refine x_iload_n (pc := 16) B 1 dX4_most_16 rfl rfl ?_
      refine x_iload_n (pc := 17) B 2 dX4_most_17 rfl rfl ?_
      obtain ⟨q2, hq, h⟩ := xbind h
      refine x_callV1 (st := [.int q1.1]) (pc := 18) B dX4_most_18 (eX4_has hq) xt_724 xt_58 np_X4_has hy_X4_has (Nat.le_of_ble_eq_true rfl) (Nat.le_of_ble_eq_true rfl) (Nat.le_of_ble_eq_true rfl) xt_723 xt_25 xt_721 rfl (iX4_has hq) rfl ?_
      rcases xite h with ⟨hc, h⟩ | ⟨hc, h⟩
      · refine x_icmp_le_t (tgt := 28) (pc := 21) B dX4_most_21 (by decide) hc ?_
        refine x_iload_n (pc := 28) B 2 dX4_most_28 rfl rfl ?_
        refine x_istore_n (L1 := [(2, .int i2), (0, .ref a0), (1, .int i1), (3, .int i3)]) (pc := 29) B dX4_most_29 rfl (by decide) rfl ?_
        refine x_iinc (L1 := [(3, .int (i3 + (1 : Int32))), (2, .int i2), (0, .ref a0), (1, .int i1)]) (pc := 30) B 3 dX4_most_30 rfl (congrArg _ xk_iconst_1) (by decide) rfl ?_
        refine x_goto (tgt := 4) (pc := 33) B dX4_most_33 (by decide) ?_
        refine x_sub (L1 := [(0, .ref a0), (1, .int i1), (2, .int i2), (3, .int (i3 + (1 : Int32)))]) [2, 3, 1, 0] rfl ?_
        exact ih a0 i1 i2 (i3 + (1 : Int32)) q2.2 h
      · refine x_icmp_le_f (pc := 21) B 28 dX4_most_21 (by decide) hc ?_
        refine x_iload_n (pc := 24) B 3 dX4_most_24 rfl rfl ?_
        refine x_goto (tgt := 29) (pc := 25) B dX4_most_25 (by decide) ?_
        refine x_istore_n (L1 := [(2, .int i3), (0, .ref a0), (1, .int i1), (3, .int i3)]) (pc := 29) B dX4_most_29 rfl (by decide) rfl ?_
        refine x_iinc (L1 := [(3, .int (i3 + (1 : Int32))), (2, .int i3), (0, .ref a0), (1, .int i1)]) (pc := 30) B 3 dX4_most_30 rfl (congrArg _ xk_iconst_1) (by decide) rfl ?_
        refine x_goto (tgt := 4) (pc := 33) B dX4_most_33 (by decide) ?_
        refine x_sub (L1 := [(0, .ref a0), (1, .int i1), (2, .int i3), (3, .int (i3 + (1 : Int32)))]) [2, 3, 1, 0] rfl ?_
        exact ih a0 i1 i3 (i3 + (1 : Int32)) q2.2 h
def fX4_most (a0 : Nat) (i1 : Int32) (w : XW) : Option (Int32 × XW) := if xis w a0 4 = true then
  fX4_most_4 1000 a0 i1 (0 : Int32) (1 : Int32) w
  else none
theorem iX4_most {a0 : Nat} {i1 : Int32} {w : XW} {R9 : (Int32 × XW)} (h : fX4_most a0 i1 w = some R9) : xis w a0 4 = true := by
  unfold fX4_most at h
  rcases xite h with ⟨hc, h⟩ | ⟨hc, h⟩
  · exact hc
  · exact absurd h (by simp)
theorem np_X4_most : (parseMethodDescriptor yX4_most.desc).map (fun d => d.parameters.length) = some 1 := by decide +kernel
theorem hy_X4_most : yX4_most.cls ≠ "java/lang/invoke/MethodHandle" ∧ yX4_most.cls ≠ "java/lang/invoke/VarHandle" := ⟨by decide +kernel, by decide +kernel⟩
set_option maxRecDepth 20000 in
theorem eX4_most {cx : CX} {a0 : Nat} {i1 : Int32} {w : XW} {R9 : (Int32 × XW)} (h : fX4_most a0 i1 w = some R9) : Ct yX4_most cX4_most 4 (some .int) 2 45 cx [.ref a0, .int i1] w (some (.int R9.1)) R9.2 := by
  refine Ct_of (by decide +kernel) (Nat.le_of_ble_eq_true rfl) (fun K B hR => ?_)
  rw [fX4_most] at h
  show Wx K cx 4 w.length 0 [(0, .ref a0), (1, .int i1)] [] w
  rcases xite h with ⟨hc, h⟩ | ⟨hc, h⟩
  · skip
    refine x_iconst (pc := 0) B dX4_most_0 xk_iconst_0 ?_
    refine x_istore_n (L1 := [(2, .int (0 : Int32)), (0, .ref a0), (1, .int i1)]) (pc := 1) B dX4_most_1 rfl (by decide) rfl ?_
    refine x_iconst (pc := 2) B dX4_most_2 xk_iconst_1 ?_
    refine x_istore_n (L1 := [(3, .int (1 : Int32)), (2, .int (0 : Int32)), (0, .ref a0), (1, .int i1)]) (pc := 3) B dX4_most_3 rfl (by decide) rfl ?_
    refine x_sub (L1 := [(0, .ref a0), (1, .int i1), (2, .int (0 : Int32)), (3, .int (1 : Int32))]) [2, 3, 1, 0] rfl ?_
    exact pX4_most_4 B hR 1000 a0 i1 (0 : Int32) (1 : Int32) w h
  · exact absurd h (by simp)
def fX4_payoffOf (a0 : Nat) (i1 : Int32) (w : XW) : Option (Int32 × XW) := if xis w a0 4 = true then
  (xgR w a0 4 10).bind fun v1 =>
  (xaI w v1 i1).bind fun v2 =>
  (fX4_has a0 i1 v2 w).bind fun q3 =>
  some (q3.1, q3.2)
  else none
theorem iX4_payoffOf {a0 : Nat} {i1 : Int32} {w : XW} {R9 : (Int32 × XW)} (h : fX4_payoffOf a0 i1 w = some R9) : xis w a0 4 = true := by
  unfold fX4_payoffOf at h
  rcases xite h with ⟨hc, h⟩ | ⟨hc, h⟩
  · exact hc
  · exact absurd h (by simp)
theorem np_X4_payoffOf : (parseMethodDescriptor yX4_payoffOf.desc).map (fun d => d.parameters.length) = some 1 := by decide +kernel
theorem hy_X4_payoffOf : yX4_payoffOf.cls ≠ "java/lang/invoke/MethodHandle" ∧ yX4_payoffOf.cls ≠ "java/lang/invoke/VarHandle" := ⟨by decide +kernel, by decide +kernel⟩
set_option maxRecDepth 20000 in
theorem eX4_payoffOf {cx : CX} {a0 : Nat} {i1 : Int32} {w : XW} {R9 : (Int32 × XW)} (h : fX4_payoffOf a0 i1 w = some R9) : Ct yX4_payoffOf cX4_payoffOf 2 (some .int) 2 45 cx [.ref a0, .int i1] w (some (.int R9.1)) R9.2 := by
  refine Ct_of (by decide +kernel) (Nat.le_of_ble_eq_true rfl) (fun K B hR => ?_)
  rw [fX4_payoffOf] at h
  show Wx K cx 2 w.length 0 [(0, .ref a0), (1, .int i1)] [] w
  rcases xite h with ⟨hc, h⟩ | ⟨hc, h⟩
  · skip
    refine x_aload_n (pc := 0) B 0 dX4_payoffOf_0 rfl rfl ?_
    refine x_iload_n (pc := 1) B 1 dX4_payoffOf_1 rfl rfl ?_
    refine x_aload_n (pc := 2) B 0 dX4_payoffOf_2 rfl rfl ?_
    obtain ⟨v1, hv, h⟩ := xbind h
    refine x_getR (k0 := 10) (pc := 3) B dX4_payoffOf_3 rfl xi_4 (by decide) ⟨rfl, rfl, rfl⟩ xt_612 hv ?_
    refine x_iload_n (pc := 6) B 1 dX4_payoffOf_6 rfl rfl ?_
    obtain ⟨v2, hv, h⟩ := xbind h
    refine x_iald (pc := 7) B dX4_payoffOf_7 hv ?_
    obtain ⟨q3, hq, h⟩ := xbind h
    refine x_callV1 (st := []) (pc := 8) B dX4_payoffOf_8 (eX4_has hq) xt_724 xt_58 np_X4_has hy_X4_has (Nat.le_of_ble_eq_true rfl) (Nat.le_of_ble_eq_true rfl) (Nat.le_of_ble_eq_true rfl) xt_723 xt_25 xt_721 rfl (iX4_has hq) rfl ?_
    exact x_iret (pc := 11) B hR dX4_payoffOf_11 (xzI _) h
  · exact absurd h (by simp)
def fX4_unhappy_2 : Nat → Nat → Int32 → XW → Option (Int32 × XW)
  | 0, _, _, _ => none
  | g + 1, a0, i1, w =>
    if (3 : Int32) ≤ i1 then
      some ((-6 : Int32), w)
    else
    (fX4_isThere a0 i1 w).bind fun q1 =>
    if q1.1 = (0 : Int32) then
      fX4_unhappy_2 g a0 (i1 + (1 : Int32)) q1.2
    else
    (fX4_most a0 i1 q1.2).bind fun q2 =>
    (fX4_has a0 i1 q2.1 q2.2).bind fun q3 =>
    (fX4_payoffOf a0 i1 q3.2).bind fun q4 =>
    if q3.1 ≤ q4.1 then
      fX4_unhappy_2 g a0 (i1 + (1 : Int32)) q4.2
    else
    some (i1, q4.2)
set_option maxRecDepth 20000 in
theorem pX4_unhappy_2 {K : KX} {cx : CX} {nn : Nat} {R9 : Int32 × XW} (B : XB K cx RX4 cX4_unhappy 2 nn 3 68) (hR : XR K cx nn (some .int) (some (.int R9.1)) R9.2) : ∀ (g : Nat) (a0 : Nat) (i1 : Int32) (w : XW), fX4_unhappy_2 g a0 i1 w = some R9 → Wx K cx 2 nn 2 [(0, .ref a0), (1, .int i1)] [] w := by
  intro g
  induction g with
  | zero =>
    intro a0 i1 w h
    exact absurd (show (none : Option (Int32 × XW)) = some R9 from h) (by simp)
  | succ g ih =>
    intro a0 i1 w h
    rw [fX4_unhappy_2] at h
    refine x_iload_n (pc := 2) B 1 dX4_unhappy_2 rfl rfl ?_
    refine x_iconst (pc := 3) B dX4_unhappy_3 xk_iconst_3 ?_
    rcases xite h with ⟨hc, h⟩ | ⟨hc, h⟩
    · refine x_icmp_ge_t (tgt := 41) (pc := 4) B dX4_unhappy_4 (by decide) hc ?_
      refine x_bipush (pc := 41) B dX4_unhappy_41 xk_bipush_m6 ?_
      exact x_iret (pc := 43) B hR dX4_unhappy_43 (xzI _) h
    · refine x_icmp_ge_f (pc := 4) B 41 dX4_unhappy_4 (by decide) hc ?_
      refine x_aload_n (pc := 7) B 0 dX4_unhappy_7 rfl rfl ?_
      refine x_iload_n (pc := 8) B 1 dX4_unhappy_8 rfl rfl ?_
      obtain ⟨q1, hq, h⟩ := xbind h
      refine x_callV1 (st := []) (pc := 9) B dX4_unhappy_9 (eX4_isThere hq) xt_716 xt_58 np_X4_isThere hy_X4_isThere (Nat.le_of_ble_eq_true rfl) (Nat.le_of_ble_eq_true rfl) (Nat.le_of_ble_eq_true rfl) xt_715 xt_23 xt_713 rfl (iX4_isThere hq) rfl ?_
      rcases xite h with ⟨hc, h⟩ | ⟨hc, h⟩
      · refine x_if_eq_t (tgt := 35) (pc := 12) B dX4_unhappy_12 (by decide) hc ?_
        refine x_iinc (L1 := [(1, .int (i1 + (1 : Int32))), (0, .ref a0)]) (pc := 35) B 1 dX4_unhappy_35 rfl (congrArg _ xk_iconst_1) (by decide) rfl ?_
        refine x_goto (tgt := 2) (pc := 38) B dX4_unhappy_38 (by decide) ?_
        refine x_sub (L1 := [(0, .ref a0), (1, .int (i1 + (1 : Int32)))]) [1, 0] rfl ?_
        exact ih a0 (i1 + (1 : Int32)) q1.2 h
      · refine x_if_eq_f (pc := 12) B 35 dX4_unhappy_12 (by decide) hc ?_
        refine x_aload_n (pc := 15) B 0 dX4_unhappy_15 rfl rfl ?_
        refine x_iload_n (pc := 16) B 1 dX4_unhappy_16 rfl rfl ?_
        refine x_aload_n (pc := 17) B 0 dX4_unhappy_17 rfl rfl ?_
        refine x_iload_n (pc := 18) B 1 dX4_unhappy_18 rfl rfl ?_
        obtain ⟨q2, hq, h⟩ := xbind h
        refine x_callV1 (st := [.int i1, .ref a0]) (pc := 19) B dX4_unhappy_19 (eX4_most hq) xt_720 xt_58 np_X4_most hy_X4_most (Nat.le_of_ble_eq_true rfl) (Nat.le_of_ble_eq_true rfl) (Nat.le_of_ble_eq_true rfl) xt_719 xt_24 xt_717 rfl (iX4_most hq) rfl ?_
        obtain ⟨q3, hq, h⟩ := xbind h
        refine x_callV1 (st := []) (pc := 22) B dX4_unhappy_22 (eX4_has hq) xt_724 xt_58 np_X4_has hy_X4_has (Nat.le_of_ble_eq_true rfl) (Nat.le_of_ble_eq_true rfl) (Nat.le_of_ble_eq_true rfl) xt_723 xt_25 xt_721 rfl (iX4_has hq) rfl ?_
        refine x_aload_n (pc := 25) B 0 dX4_unhappy_25 rfl rfl ?_
        refine x_iload_n (pc := 26) B 1 dX4_unhappy_26 rfl rfl ?_
        obtain ⟨q4, hq, h⟩ := xbind h
        refine x_callV1 (st := [.int q3.1]) (pc := 27) B dX4_unhappy_27 (eX4_payoffOf hq) xt_728 xt_58 np_X4_payoffOf hy_X4_payoffOf (Nat.le_of_ble_eq_true rfl) (Nat.le_of_ble_eq_true rfl) (Nat.le_of_ble_eq_true rfl) xt_727 xt_26 xt_725 rfl (iX4_payoffOf hq) rfl ?_
        rcases xite h with ⟨hc, h⟩ | ⟨hc, h⟩
        · refine x_icmp_le_t (tgt := 35) (pc := 30) B dX4_unhappy_30 (by decide) hc ?_
          refine x_iinc (L1 := [(1, .int (i1 + (1 : Int32))), (0, .ref a0)]) (pc := 35) B 1 dX4_unhappy_35 rfl (congrArg _ xk_iconst_1) (by decide) rfl ?_
          refine x_goto (tgt := 2) (pc := 38) B dX4_unhappy_38 (by decide) ?_
          refine x_sub (L1 := [(0, .ref a0), (1, .int (i1 + (1 : Int32)))]) [1, 0] rfl ?_
          exact ih a0 (i1 + (1 : Int32)) q4.2 h
        · refine x_icmp_le_f (pc := 30) B 35 dX4_unhappy_30 (by decide) hc ?_
          refine x_iload_n (pc := 33) B 1 dX4_unhappy_33 rfl rfl ?_
          exact x_iret (pc := 34) B hR dX4_unhappy_34 (xzI _) h
def fX4_unhappy (a0 : Nat) (w : XW) : Option (Int32 × XW) := if xis w a0 4 = true then
  fX4_unhappy_2 1000 a0 (0 : Int32) w
  else none
theorem iX4_unhappy {a0 : Nat} {w : XW} {R9 : (Int32 × XW)} (h : fX4_unhappy a0 w = some R9) : xis w a0 4 = true := by
  unfold fX4_unhappy at h
  rcases xite h with ⟨hc, h⟩ | ⟨hc, h⟩
  · exact hc
  · exact absurd h (by simp)
theorem np_X4_unhappy : (parseMethodDescriptor yX4_unhappy.desc).map (fun d => d.parameters.length) = some 0 := by decide +kernel
theorem hy_X4_unhappy : yX4_unhappy.cls ≠ "java/lang/invoke/MethodHandle" ∧ yX4_unhappy.cls ≠ "java/lang/invoke/VarHandle" := ⟨by decide +kernel, by decide +kernel⟩
set_option maxRecDepth 20000 in
theorem eX4_unhappy {cx : CX} {a0 : Nat} {w : XW} {R9 : (Int32 × XW)} (h : fX4_unhappy a0 w = some R9) : Ct yX4_unhappy cX4_unhappy 2 (some .int) 3 68 cx [.ref a0] w (some (.int R9.1)) R9.2 := by
  refine Ct_of (by decide +kernel) (Nat.le_of_ble_eq_true rfl) (fun K B hR => ?_)
  rw [fX4_unhappy] at h
  show Wx K cx 2 w.length 0 [(0, .ref a0)] [] w
  rcases xite h with ⟨hc, h⟩ | ⟨hc, h⟩
  · skip
    refine x_iconst (pc := 0) B dX4_unhappy_0 xk_iconst_0 ?_
    refine x_istore_n (L1 := [(1, .int (0 : Int32)), (0, .ref a0)]) (pc := 1) B dX4_unhappy_1 rfl (by decide) rfl ?_
    refine x_sub (L1 := [(0, .ref a0), (1, .int (0 : Int32))]) [1, 0] rfl ?_
    exact pX4_unhappy_2 B hR 1000 a0 (0 : Int32) w h
  · exact absurd h (by simp)
def fX4_senders_4 : Nat → Nat → Int32 → Int32 → Int32 → XW → Option (Int32 × XW)
  | 0, _, _, _, _, _ => none
  | g + 1, a0, i1, i2, i3, w =>
    if (3 : Int32) ≤ i3 then
      some (i2, w)
    else
    (fX4_isThere a0 i3 w).bind fun q1 =>
    if q1.1 = (0 : Int32) then
      fX4_senders_4 g a0 i1 (i2 ||| (0 : Int32)) (i3 + (1 : Int32)) q1.2
    else
    (xgR q1.2 a0 4 10).bind fun v2 =>
    (xaI q1.2 v2 i3).bind fun v3 =>
    if v3 = i1 then
      fX4_senders_4 g a0 i1 (i2 ||| ((1 : Int32) <<< (i3 &&& 31))) (i3 + (1 : Int32)) q1.2
    else
    fX4_senders_4 g a0 i1 (i2 ||| (0 : Int32)) (i3 + (1 : Int32)) q1.2
set_option maxRecDepth 20000 in
theorem pX4_senders_4 {K : KX} {cx : CX} {nn : Nat} {R9 : Int32 × XW} (B : XB K cx RX4 cX4_senders 4 nn 1 21) (hR : XR K cx nn (some .int) (some (.int R9.1)) R9.2) : ∀ (g : Nat) (a0 : Nat) (i1 : Int32) (i2 : Int32) (i3 : Int32) (w : XW), fX4_senders_4 g a0 i1 i2 i3 w = some R9 → Wx K cx 4 nn 4 [(0, .ref a0), (1, .int i1), (2, .int i2), (3, .int i3)] [] w := by
  intro g
  induction g with
  | zero =>
    intro a0 i1 i2 i3 w h
    exact absurd (show (none : Option (Int32 × XW)) = some R9 from h) (by simp)
  | succ g ih =>
    intro a0 i1 i2 i3 w h
    rw [fX4_senders_4] at h
    refine x_iload_n (pc := 4) B 3 dX4_senders_4 rfl rfl ?_
    refine x_iconst (pc := 5) B dX4_senders_5 xk_iconst_3 ?_
    rcases xite h with ⟨hc, h⟩ | ⟨hc, h⟩
    · refine x_icmp_ge_t (tgt := 43) (pc := 6) B dX4_senders_6 (by decide) hc ?_
      refine x_iload_n (pc := 43) B 2 dX4_senders_43 rfl rfl ?_
      exact x_iret (pc := 44) B hR dX4_senders_44 (xzI _) h
    · refine x_icmp_ge_f (pc := 6) B 43 dX4_senders_6 (by decide) hc ?_
      refine x_iload_n (pc := 9) B 2 dX4_senders_9 rfl rfl ?_
      refine x_aload_n (pc := 10) B 0 dX4_senders_10 rfl rfl ?_
      refine x_iload_n (pc := 11) B 3 dX4_senders_11 rfl rfl ?_
      obtain ⟨q1, hq, h⟩ := xbind h
      refine x_callV1 (st := [.int i2]) (pc := 12) B dX4_senders_12 (eX4_isThere hq) xt_716 xt_58 np_X4_isThere hy_X4_isThere (Nat.le_of_ble_eq_true rfl) (Nat.le_of_ble_eq_true rfl) (Nat.le_of_ble_eq_true rfl) xt_715 xt_23 xt_713 rfl (iX4_isThere hq) rfl ?_
      rcases xite h with ⟨hc, h⟩ | ⟨hc, h⟩
      · refine x_if_eq_t (tgt := 34) (pc := 15) B dX4_senders_15 (by decide) hc ?_
        refine x_iconst (pc := 34) B dX4_senders_34 xk_iconst_0 ?_
        refine x_ior (pc := 35) B dX4_senders_35 ?_
        refine x_istore_n (L1 := [(2, .int (i2 ||| (0 : Int32))), (0, .ref a0), (1, .int i1), (3, .int i3)]) (pc := 36) B dX4_senders_36 rfl (by decide) rfl ?_
        refine x_iinc (L1 := [(3, .int (i3 + (1 : Int32))), (2, .int (i2 ||| (0 : Int32))), (0, .ref a0), (1, .int i1)]) (pc := 37) B 3 dX4_senders_37 rfl (congrArg _ xk_iconst_1) (by decide) rfl ?_
        refine x_goto (tgt := 4) (pc := 40) B dX4_senders_40 (by decide) ?_
        refine x_sub (L1 := [(0, .ref a0), (1, .int i1), (2, .int (i2 ||| (0 : Int32))), (3, .int (i3 + (1 : Int32)))]) [2, 3, 1, 0] rfl ?_
        exact ih a0 i1 (i2 ||| (0 : Int32)) (i3 + (1 : Int32)) q1.2 h
      · refine x_if_eq_f (pc := 15) B 34 dX4_senders_15 (by decide) hc ?_
        refine x_aload_n (pc := 18) B 0 dX4_senders_18 rfl rfl ?_
        obtain ⟨v2, hv, h⟩ := xbind h
        refine x_getR (k0 := 10) (pc := 19) B dX4_senders_19 rfl xi_4 (by decide) ⟨rfl, rfl, rfl⟩ xt_612 hv ?_
        refine x_iload_n (pc := 22) B 3 dX4_senders_22 rfl rfl ?_
        obtain ⟨v3, hv, h⟩ := xbind h
        refine x_iald (pc := 23) B dX4_senders_23 hv ?_
        refine x_iload_n (pc := 24) B 1 dX4_senders_24 rfl rfl ?_
        rcases xite h with ⟨hc, h⟩ | ⟨hc, h⟩
        · refine x_icmp_ne_f (pc := 25) B 34 dX4_senders_25 (by decide) hc ?_
          refine x_iconst (pc := 28) B dX4_senders_28 xk_iconst_1 ?_
          refine x_iload_n (pc := 29) B 3 dX4_senders_29 rfl rfl ?_
          refine x_ishl (pc := 30) B dX4_senders_30 ?_
          refine x_goto (tgt := 35) (pc := 31) B dX4_senders_31 (by decide) ?_
          refine x_ior (pc := 35) B dX4_senders_35 ?_
          refine x_istore_n (L1 := [(2, .int (i2 ||| ((1 : Int32) <<< (i3 &&& 31)))), (0, .ref a0), (1, .int i1), (3, .int i3)]) (pc := 36) B dX4_senders_36 rfl (by decide) rfl ?_
          refine x_iinc (L1 := [(3, .int (i3 + (1 : Int32))), (2, .int (i2 ||| ((1 : Int32) <<< (i3 &&& 31)))), (0, .ref a0), (1, .int i1)]) (pc := 37) B 3 dX4_senders_37 rfl (congrArg _ xk_iconst_1) (by decide) rfl ?_
          refine x_goto (tgt := 4) (pc := 40) B dX4_senders_40 (by decide) ?_
          refine x_sub (L1 := [(0, .ref a0), (1, .int i1), (2, .int (i2 ||| ((1 : Int32) <<< (i3 &&& 31)))), (3, .int (i3 + (1 : Int32)))]) [2, 3, 1, 0] rfl ?_
          exact ih a0 i1 (i2 ||| ((1 : Int32) <<< (i3 &&& 31))) (i3 + (1 : Int32)) q1.2 h
        · refine x_icmp_ne_t (tgt := 34) (pc := 25) B dX4_senders_25 (by decide) hc ?_
          refine x_iconst (pc := 34) B dX4_senders_34 xk_iconst_0 ?_
          refine x_ior (pc := 35) B dX4_senders_35 ?_
          refine x_istore_n (L1 := [(2, .int (i2 ||| (0 : Int32))), (0, .ref a0), (1, .int i1), (3, .int i3)]) (pc := 36) B dX4_senders_36 rfl (by decide) rfl ?_
          refine x_iinc (L1 := [(3, .int (i3 + (1 : Int32))), (2, .int (i2 ||| (0 : Int32))), (0, .ref a0), (1, .int i1)]) (pc := 37) B 3 dX4_senders_37 rfl (congrArg _ xk_iconst_1) (by decide) rfl ?_
          refine x_goto (tgt := 4) (pc := 40) B dX4_senders_40 (by decide) ?_
          refine x_sub (L1 := [(0, .ref a0), (1, .int i1), (2, .int (i2 ||| (0 : Int32))), (3, .int (i3 + (1 : Int32)))]) [2, 3, 1, 0] rfl ?_
          exact ih a0 i1 (i2 ||| (0 : Int32)) (i3 + (1 : Int32)) q1.2 h
def fX4_senders (a0 : Nat) (i1 : Int32) (w : XW) : Option (Int32 × XW) := if xis w a0 4 = true then
  fX4_senders_4 1000 a0 i1 (0 : Int32) (0 : Int32) w
  else none
theorem iX4_senders {a0 : Nat} {i1 : Int32} {w : XW} {R9 : (Int32 × XW)} (h : fX4_senders a0 i1 w = some R9) : xis w a0 4 = true := by
  unfold fX4_senders at h
  rcases xite h with ⟨hc, h⟩ | ⟨hc, h⟩
  · exact hc
  · exact absurd h (by simp)
theorem np_X4_senders : (parseMethodDescriptor yX4_senders.desc).map (fun d => d.parameters.length) = some 1 := by decide +kernel
theorem hy_X4_senders : yX4_senders.cls ≠ "java/lang/invoke/MethodHandle" ∧ yX4_senders.cls ≠ "java/lang/invoke/VarHandle" := ⟨by decide +kernel, by decide +kernel⟩
set_option maxRecDepth 20000 in
theorem eX4_senders {cx : CX} {a0 : Nat} {i1 : Int32} {w : XW} {R9 : (Int32 × XW)} (h : fX4_senders a0 i1 w = some R9) : Ct yX4_senders cX4_senders 4 (some .int) 1 21 cx [.ref a0, .int i1] w (some (.int R9.1)) R9.2 := by
  refine Ct_of (by decide +kernel) (Nat.le_of_ble_eq_true rfl) (fun K B hR => ?_)
  rw [fX4_senders] at h
  show Wx K cx 4 w.length 0 [(0, .ref a0), (1, .int i1)] [] w
  rcases xite h with ⟨hc, h⟩ | ⟨hc, h⟩
  · skip
    refine x_iconst (pc := 0) B dX4_senders_0 xk_iconst_0 ?_
    refine x_istore_n (L1 := [(2, .int (0 : Int32)), (0, .ref a0), (1, .int i1)]) (pc := 1) B dX4_senders_1 rfl (by decide) rfl ?_
    refine x_iconst (pc := 2) B dX4_senders_2 xk_iconst_0 ?_
    refine x_istore_n (L1 := [(3, .int (0 : Int32)), (2, .int (0 : Int32)), (0, .ref a0), (1, .int i1)]) (pc := 3) B dX4_senders_3 rfl (by decide) rfl ?_
    refine x_sub (L1 := [(0, .ref a0), (1, .int i1), (2, .int (0 : Int32)), (3, .int (0 : Int32))]) [2, 3, 1, 0] rfl ?_
    exact pX4_senders_4 B hR 1000 a0 i1 (0 : Int32) (0 : Int32) w h
  · exact absurd h (by simp)
def fX4_believes_8 : Nat → Nat → Int32 → Int32 → Int32 → XW → Option XW
  | 0, _, _, _, _, _ => none
  | g + 1, a0, i1, i2, i3, w =>
    if (3 : Int32) ≤ i3 then
      some w
    else
    (xgR w a0 4 11).bind fun v2 =>
    if i2 = (0 : Int32) then
      (xgR w a0 4 0).bind fun v3 =>
      (xaI w v3 (((57 : Int32) + ((3 : Int32) * i1)) + i3)).bind fun v4 =>
      (xsI w v2 i3 v4).bind fun w5 =>
      fX4_believes_8 g a0 i1 i2 (i3 + (1 : Int32)) w5
    else
    if ((i2 >>> (i3 &&& 31)) &&& (1 : Int32)) = (1 : Int32) then
      (xgR w a0 4 0).bind fun v6 =>
      (xaI w v6 i3).bind fun v7 =>
      (xsI w v2 i3 v7).bind fun w8 =>
      fX4_believes_8 g a0 i1 i2 (i3 + (1 : Int32)) w8
    else
    (xsI w v2 i3 (0 : Int32)).bind fun w9 =>
    fX4_believes_8 g a0 i1 i2 (i3 + (1 : Int32)) w9
set_option maxRecDepth 20000 in
theorem pX4_believes_8 {K : KX} {cx : CX} {nn : Nat} {R9 : XW} (B : XB K cx RX4 cX4_believes 4 nn 2 44) (hR : XR K cx nn none none R9) : ∀ (g : Nat) (a0 : Nat) (i1 : Int32) (i2 : Int32) (i3 : Int32) (w : XW), fX4_believes_8 g a0 i1 i2 i3 w = some R9 → Wx K cx 4 nn 8 [(0, .ref a0), (1, .int i1), (2, .int i2), (3, .int i3)] [] w := by
  intro g
  induction g with
  | zero =>
    intro a0 i1 i2 i3 w h
    exact absurd (show (none : Option XW) = some R9 from h) (by simp)
  | succ g ih =>
    intro a0 i1 i2 i3 w h
    rw [fX4_believes_8] at h
    refine x_iload_n (pc := 8) B 3 dX4_believes_8 rfl rfl ?_
    refine x_iconst (pc := 9) B dX4_believes_9 xk_iconst_3 ?_
    rcases xite h with ⟨hc, h⟩ | ⟨hc, h⟩
    · refine x_icmp_ge_t (tgt := 64) (pc := 10) B dX4_believes_10 (by decide) hc ?_
      exact x_vret (pc := 64) B hR dX4_believes_64 h
    · refine x_icmp_ge_f (pc := 10) B 64 dX4_believes_10 (by decide) hc ?_
      refine x_aload_n (pc := 13) B 0 dX4_believes_13 rfl rfl ?_
      obtain ⟨v2, hv, h⟩ := xbind h
      refine x_getR (k0 := 11) (pc := 14) B dX4_believes_14 rfl xi_4 (by decide) ⟨rfl, rfl, rfl⟩ xt_613 hv ?_
      refine x_iload_n (pc := 17) B 3 dX4_believes_17 rfl rfl ?_
      refine x_iload_n (pc := 18) B 2 dX4_believes_18 rfl rfl ?_
      rcases xite h with ⟨hc, h⟩ | ⟨hc, h⟩
      · refine x_if_ne_f (pc := 19) B 38 dX4_believes_19 (by decide) hc ?_
        refine x_aload_n (pc := 22) B 0 dX4_believes_22 rfl rfl ?_
        obtain ⟨v3, hv, h⟩ := xbind h
        refine x_getR (k0 := 0) (pc := 23) B dX4_believes_23 rfl xi_4 (by decide) ⟨rfl, rfl, rfl⟩ xt_602 hv ?_
        refine x_bipush (pc := 26) B dX4_believes_26 xk_bipush_57 ?_
        refine x_iconst (pc := 28) B dX4_believes_28 xk_iconst_3 ?_
        refine x_iload_n (pc := 29) B 1 dX4_believes_29 rfl rfl ?_
        refine x_imul (pc := 30) B dX4_believes_30 ?_
        refine x_iadd (pc := 31) B dX4_believes_31 ?_
        refine x_iload_n (pc := 32) B 3 dX4_believes_32 rfl rfl ?_
        refine x_iadd (pc := 33) B dX4_believes_33 ?_
        obtain ⟨v4, hv, h⟩ := xbind h
        refine x_iald (pc := 34) B dX4_believes_34 hv ?_
        refine x_goto (tgt := 57) (pc := 35) B dX4_believes_35 (by decide) ?_
        obtain ⟨w5, hv, h⟩ := xbind h
        refine x_iast (pc := 57) B dX4_believes_57 hv ?_
        refine x_iinc (L1 := [(3, .int (i3 + (1 : Int32))), (0, .ref a0), (1, .int i1), (2, .int i2)]) (pc := 58) B 3 dX4_believes_58 rfl (congrArg _ xk_iconst_1) (by decide) rfl ?_
        refine x_goto (tgt := 8) (pc := 61) B dX4_believes_61 (by decide) ?_
        refine x_sub (L1 := [(0, .ref a0), (1, .int i1), (2, .int i2), (3, .int (i3 + (1 : Int32)))]) [1, 2, 3, 0] rfl ?_
        exact ih a0 i1 i2 (i3 + (1 : Int32)) w5 h
      · refine x_if_ne_t (tgt := 38) (pc := 19) B dX4_believes_19 (by decide) hc ?_
        refine x_iload_n (pc := 38) B 2 dX4_believes_38 rfl rfl ?_
        refine x_iload_n (pc := 39) B 3 dX4_believes_39 rfl rfl ?_
        refine x_ishr (pc := 40) B dX4_believes_40 ?_
        refine x_iconst (pc := 41) B dX4_believes_41 xk_iconst_1 ?_
        refine x_iand (pc := 42) B dX4_believes_42 ?_
        refine x_iconst (pc := 43) B dX4_believes_43 xk_iconst_1 ?_
        rcases xite h with ⟨hc, h⟩ | ⟨hc, h⟩
        · refine x_icmp_ne_f (pc := 44) B 56 dX4_believes_44 (by decide) hc ?_
          refine x_aload_n (pc := 47) B 0 dX4_believes_47 rfl rfl ?_
          obtain ⟨v6, hv, h⟩ := xbind h
          refine x_getR (k0 := 0) (pc := 48) B dX4_believes_48 rfl xi_4 (by decide) ⟨rfl, rfl, rfl⟩ xt_602 hv ?_
          refine x_iload_n (pc := 51) B 3 dX4_believes_51 rfl rfl ?_
          obtain ⟨v7, hv, h⟩ := xbind h
          refine x_iald (pc := 52) B dX4_believes_52 hv ?_
          refine x_goto (tgt := 57) (pc := 53) B dX4_believes_53 (by decide) ?_
          obtain ⟨w8, hv, h⟩ := xbind h
          refine x_iast (pc := 57) B dX4_believes_57 hv ?_
          refine x_iinc (L1 := [(3, .int (i3 + (1 : Int32))), (0, .ref a0), (1, .int i1), (2, .int i2)]) (pc := 58) B 3 dX4_believes_58 rfl (congrArg _ xk_iconst_1) (by decide) rfl ?_
          refine x_goto (tgt := 8) (pc := 61) B dX4_believes_61 (by decide) ?_
          refine x_sub (L1 := [(0, .ref a0), (1, .int i1), (2, .int i2), (3, .int (i3 + (1 : Int32)))]) [1, 2, 3, 0] rfl ?_
          exact ih a0 i1 i2 (i3 + (1 : Int32)) w8 h
        · refine x_icmp_ne_t (tgt := 56) (pc := 44) B dX4_believes_44 (by decide) hc ?_
          refine x_iconst (pc := 56) B dX4_believes_56 xk_iconst_0 ?_
          obtain ⟨w9, hv, h⟩ := xbind h
          refine x_iast (pc := 57) B dX4_believes_57 hv ?_
          refine x_iinc (L1 := [(3, .int (i3 + (1 : Int32))), (0, .ref a0), (1, .int i1), (2, .int i2)]) (pc := 58) B 3 dX4_believes_58 rfl (congrArg _ xk_iconst_1) (by decide) rfl ?_
          refine x_goto (tgt := 8) (pc := 61) B dX4_believes_61 (by decide) ?_
          refine x_sub (L1 := [(0, .ref a0), (1, .int i1), (2, .int i2), (3, .int (i3 + (1 : Int32)))]) [1, 2, 3, 0] rfl ?_
          exact ih a0 i1 i2 (i3 + (1 : Int32)) w9 h
def fX4_believes (a0 : Nat) (i1 : Int32) (w : XW) : Option XW := if xis w a0 4 = true then
  (fX4_senders a0 i1 w).bind fun q1 =>
  fX4_believes_8 1000 a0 i1 q1.1 (0 : Int32) q1.2
  else none
theorem iX4_believes {a0 : Nat} {i1 : Int32} {w : XW} {R9 : XW} (h : fX4_believes a0 i1 w = some R9) : xis w a0 4 = true := by
  unfold fX4_believes at h
  rcases xite h with ⟨hc, h⟩ | ⟨hc, h⟩
  · exact hc
  · exact absurd h (by simp)
theorem np_X4_believes : (parseMethodDescriptor yX4_believes.desc).map (fun d => d.parameters.length) = some 1 := by decide +kernel
theorem hy_X4_believes : yX4_believes.cls ≠ "java/lang/invoke/MethodHandle" ∧ yX4_believes.cls ≠ "java/lang/invoke/VarHandle" := ⟨by decide +kernel, by decide +kernel⟩
set_option maxRecDepth 20000 in
theorem eX4_believes {cx : CX} {a0 : Nat} {i1 : Int32} {w : XW} {R9 : XW} (h : fX4_believes a0 i1 w = some R9) : Ct yX4_believes cX4_believes 4 none 2 44 cx [.ref a0, .int i1] w none R9 := by
  refine Ct_of (by decide +kernel) (Nat.le_of_ble_eq_true rfl) (fun K B hR => ?_)
  rw [fX4_believes] at h
  show Wx K cx 4 w.length 0 [(0, .ref a0), (1, .int i1)] [] w
  rcases xite h with ⟨hc, h⟩ | ⟨hc, h⟩
  · skip
    refine x_aload_n (pc := 0) B 0 dX4_believes_0 rfl rfl ?_
    refine x_iload_n (pc := 1) B 1 dX4_believes_1 rfl rfl ?_
    obtain ⟨q1, hq, h⟩ := xbind h
    refine x_callV1 (st := []) (pc := 2) B dX4_believes_2 (eX4_senders hq) xt_744 xt_58 np_X4_senders hy_X4_senders (Nat.le_of_ble_eq_true rfl) (Nat.le_of_ble_eq_true rfl) (Nat.le_of_ble_eq_true rfl) xt_743 xt_30 xt_741 rfl (iX4_senders hq) rfl ?_
    refine x_istore_n (L1 := [(2, .int q1.1), (0, .ref a0), (1, .int i1)]) (pc := 5) B dX4_believes_5 rfl (by decide) rfl ?_
    refine x_iconst (pc := 6) B dX4_believes_6 xk_iconst_0 ?_
    refine x_istore_n (L1 := [(3, .int (0 : Int32)), (2, .int q1.1), (0, .ref a0), (1, .int i1)]) (pc := 7) B dX4_believes_7 rfl (by decide) rfl ?_
    refine x_sub (L1 := [(0, .ref a0), (1, .int i1), (2, .int q1.1), (3, .int (0 : Int32))]) [2, 3, 1, 0] rfl ?_
    exact pX4_believes_8 B hR 1000 a0 i1 q1.1 (0 : Int32) q1.2 h
  · exact absurd h (by simp)
def fX4_worth_5 : Nat → Nat → Int32 → Int32 → Int32 → Int32 → XW → Option (Int32 × XW)
  | 0, _, _, _, _, _, _ => none
  | g + 1, a0, i1, i2, i3, i4, w =>
    if (3 : Int32) ≤ i4 then
      some (i3, w)
    else
    (xgR w a0 4 11).bind fun v1 =>
    (xaI w v1 i4).bind fun v2 =>
    (xgR w a0 4 0).bind fun v3 =>
    (fX4_place (1 : Int32) i4 i1 i2 w).bind fun q4 =>
    (xaI q4.2 v3 q4.1).bind fun v5 =>
    fX4_worth_5 g a0 i1 i2 (i3 + (v2 * v5)) (i4 + (1 : Int32)) q4.2
set_option maxRecDepth 20000 in
theorem pX4_worth_5 {K : KX} {cx : CX} {nn : Nat} {R9 : Int32 × XW} (B : XB K cx RX4 cX4_worth 5 nn 1 23) (hR : XR K cx nn (some .int) (some (.int R9.1)) R9.2) : ∀ (g : Nat) (a0 : Nat) (i1 : Int32) (i2 : Int32) (i3 : Int32) (i4 : Int32) (w : XW), fX4_worth_5 g a0 i1 i2 i3 i4 w = some R9 → Wx K cx 5 nn 5 [(0, .ref a0), (1, .int i1), (2, .int i2), (3, .int i3), (4, .int i4)] [] w := by
  intro g
  induction g with
  | zero =>
    intro a0 i1 i2 i3 i4 w h
    exact absurd (show (none : Option (Int32 × XW)) = some R9 from h) (by simp)
  | succ g ih =>
    intro a0 i1 i2 i3 i4 w h
    rw [fX4_worth_5] at h
    refine x_iload (pc := 5) B 4 dX4_worth_5 rfl ?_
    refine x_iconst (pc := 7) B dX4_worth_7 xk_iconst_3 ?_
    rcases xite h with ⟨hc, h⟩ | ⟨hc, h⟩
    · refine x_icmp_ge_t (tgt := 41) (pc := 8) B dX4_worth_8 (by decide) hc ?_
      refine x_iload_n (pc := 41) B 3 dX4_worth_41 rfl rfl ?_
      exact x_iret (pc := 42) B hR dX4_worth_42 (xzI _) h
    · refine x_icmp_ge_f (pc := 8) B 41 dX4_worth_8 (by decide) hc ?_
      refine x_iload_n (pc := 11) B 3 dX4_worth_11 rfl rfl ?_
      refine x_aload_n (pc := 12) B 0 dX4_worth_12 rfl rfl ?_
      obtain ⟨v1, hv, h⟩ := xbind h
      refine x_getR (k0 := 11) (pc := 13) B dX4_worth_13 rfl xi_4 (by decide) ⟨rfl, rfl, rfl⟩ xt_613 hv ?_
      refine x_iload (pc := 16) B 4 dX4_worth_16 rfl ?_
      obtain ⟨v2, hv, h⟩ := xbind h
      refine x_iald (pc := 18) B dX4_worth_18 hv ?_
      refine x_aload_n (pc := 19) B 0 dX4_worth_19 rfl rfl ?_
      obtain ⟨v3, hv, h⟩ := xbind h
      refine x_getR (k0 := 0) (pc := 20) B dX4_worth_20 rfl xi_4 (by decide) ⟨rfl, rfl, rfl⟩ xt_602 hv ?_
      refine x_iconst (pc := 23) B dX4_worth_23 xk_iconst_1 ?_
      refine x_iload (pc := 24) B 4 dX4_worth_24 rfl ?_
      refine x_iload_n (pc := 26) B 1 dX4_worth_26 rfl rfl ?_
      refine x_iload_n (pc := 27) B 2 dX4_worth_27 rfl rfl ?_
      obtain ⟨q4, hq, h⟩ := xbind h
      refine x_callS1 (st := [.ref v3, .int v2, .int i3]) (pc := 28) B dX4_worth_28 (eX4_place hq) xt_676 xt_58 np_X4_place hy_X4_place (Nat.le_of_ble_eq_true rfl) (Nat.le_of_ble_eq_true rfl) (Nat.le_of_ble_eq_true rfl) xt_675 xt_674 rfl ?_
      obtain ⟨v5, hv, h⟩ := xbind h
      refine x_iald (pc := 31) B dX4_worth_31 hv ?_
      refine x_imul (pc := 32) B dX4_worth_32 ?_
      refine x_iadd (pc := 33) B dX4_worth_33 ?_
      refine x_istore_n (L1 := [(3, .int (i3 + (v2 * v5))), (0, .ref a0), (1, .int i1), (2, .int i2), (4, .int i4)]) (pc := 34) B dX4_worth_34 rfl (by decide) rfl ?_
      refine x_iinc (L1 := [(4, .int (i4 + (1 : Int32))), (3, .int (i3 + (v2 * v5))), (0, .ref a0), (1, .int i1), (2, .int i2)]) (pc := 35) B 4 dX4_worth_35 rfl (congrArg _ xk_iconst_1) (by decide) rfl ?_
      refine x_goto (tgt := 5) (pc := 38) B dX4_worth_38 (by decide) ?_
      refine x_sub (L1 := [(0, .ref a0), (1, .int i1), (2, .int i2), (3, .int (i3 + (v2 * v5))), (4, .int (i4 + (1 : Int32)))]) [2, 3, 4, 1, 0] rfl ?_
      exact ih a0 i1 i2 (i3 + (v2 * v5)) (i4 + (1 : Int32)) q4.2 h
def fX4_worth (a0 : Nat) (i1 : Int32) (i2 : Int32) (w : XW) : Option (Int32 × XW) := if xis w a0 4 = true then
  fX4_worth_5 1000 a0 i1 i2 (0 : Int32) (0 : Int32) w
  else none
theorem iX4_worth {a0 : Nat} {i1 : Int32} {i2 : Int32} {w : XW} {R9 : (Int32 × XW)} (h : fX4_worth a0 i1 i2 w = some R9) : xis w a0 4 = true := by
  unfold fX4_worth at h
  rcases xite h with ⟨hc, h⟩ | ⟨hc, h⟩
  · exact hc
  · exact absurd h (by simp)
theorem np_X4_worth : (parseMethodDescriptor yX4_worth.desc).map (fun d => d.parameters.length) = some 2 := by decide +kernel
theorem hy_X4_worth : yX4_worth.cls ≠ "java/lang/invoke/MethodHandle" ∧ yX4_worth.cls ≠ "java/lang/invoke/VarHandle" := ⟨by decide +kernel, by decide +kernel⟩
set_option maxRecDepth 20000 in
theorem eX4_worth {cx : CX} {a0 : Nat} {i1 : Int32} {i2 : Int32} {w : XW} {R9 : (Int32 × XW)} (h : fX4_worth a0 i1 i2 w = some R9) : Ct yX4_worth cX4_worth 5 (some .int) 1 23 cx [.ref a0, .int i1, .int i2] w (some (.int R9.1)) R9.2 := by
  refine Ct_of (by decide +kernel) (Nat.le_of_ble_eq_true rfl) (fun K B hR => ?_)
  rw [fX4_worth] at h
  show Wx K cx 5 w.length 0 [(0, .ref a0), (1, .int i1), (2, .int i2)] [] w
  rcases xite h with ⟨hc, h⟩ | ⟨hc, h⟩
  · skip
    refine x_iconst (pc := 0) B dX4_worth_0 xk_iconst_0 ?_
    refine x_istore_n (L1 := [(3, .int (0 : Int32)), (0, .ref a0), (1, .int i1), (2, .int i2)]) (pc := 1) B dX4_worth_1 rfl (by decide) rfl ?_
    refine x_iconst (pc := 2) B dX4_worth_2 xk_iconst_0 ?_
    refine x_istore (L1 := [(4, .int (0 : Int32)), (3, .int (0 : Int32)), (0, .ref a0), (1, .int i1), (2, .int i2)]) (pc := 3) B dX4_worth_3 (by decide) rfl ?_
    refine x_sub (L1 := [(0, .ref a0), (1, .int i1), (2, .int i2), (3, .int (0 : Int32)), (4, .int (0 : Int32))]) [2, 3, 4, 1, 0] rfl ?_
    exact pX4_worth_5 B hR 1000 a0 i1 i2 (0 : Int32) (0 : Int32) w h
  · exact absurd h (by simp)
def fX4_bestSet_12 : Nat → Nat → Int32 → Int32 → Int32 → Int32 → XW → Option (Int32 × XW)
  | 0, _, _, _, _, _, _ => none
  | g + 1, a0, i1, i2, i3, i4, w =>
    if (3 : Int32) ≤ i4 then
      some (i3, w)
    else
    (fX4_worth a0 i1 i4 w).bind fun q2 =>
    if q2.1 ≤ i2 then
      if q2.1 = i2 then
        if q2.1 ≤ i2 then
          fX4_bestSet_12 g a0 i1 i2 (i3 ||| ((1 : Int32) <<< (i4 &&& 31))) (i4 + (1 : Int32)) q2.2
        else
        fX4_bestSet_12 g a0 i1 q2.1 (i3 ||| ((1 : Int32) <<< (i4 &&& 31))) (i4 + (1 : Int32)) q2.2
      else
      if q2.1 ≤ i2 then
        fX4_bestSet_12 g a0 i1 i2 i3 (i4 + (1 : Int32)) q2.2
      else
      fX4_bestSet_12 g a0 i1 q2.1 i3 (i4 + (1 : Int32)) q2.2
    else
    if q2.1 ≤ i2 then
      fX4_bestSet_12 g a0 i1 i2 ((1 : Int32) <<< (i4 &&& 31)) (i4 + (1 : Int32)) q2.2
    else
    fX4_bestSet_12 g a0 i1 q2.1 ((1 : Int32) <<< (i4 &&& 31)) (i4 + (1 : Int32)) q2.2
set_option maxRecDepth 20000 in
theorem pX4_bestSet_12 {K : KX} {cx : CX} {nn : Nat} {R9 : Int32 × XW} (B : XB K cx RX4 cX4_bestSet 6 nn 2 47) (hR : XR K cx nn (some .int) (some (.int R9.1)) R9.2) : ∀ (g : Nat) (a0 : Nat) (i1 : Int32) (i2 : Int32) (i3 : Int32) (i4 : Int32) (w : XW), fX4_bestSet_12 g a0 i1 i2 i3 i4 w = some R9 → Wx K cx 6 nn 12 [(0, .ref a0), (1, .int i1), (2, .int i2), (3, .int i3), (4, .int i4)] [] w := by
  intro g
  induction g with
  | zero =>
    intro a0 i1 i2 i3 i4 w h
    exact absurd (show (none : Option (Int32 × XW)) = some R9 from h) (by simp)
  | succ g ih =>
    intro a0 i1 i2 i3 i4 w h
    rw [fX4_bestSet_12] at h
    refine x_iload (pc := 12) B 4 dX4_bestSet_12 rfl ?_
    refine x_iconst (pc := 14) B dX4_bestSet_14 xk_iconst_3 ?_
    rcases xite h with ⟨hc, h⟩ | ⟨hc, h⟩
    · refine x_icmp_ge_t (tgt := 76) (pc := 15) B dX4_bestSet_15 (by decide) hc ?_
      refine x_iload_n (pc := 76) B 3 dX4_bestSet_76 rfl rfl ?_
      exact x_iret (pc := 77) B hR dX4_bestSet_77 (xzI _) h
    · refine x_icmp_ge_f (pc := 15) B 76 dX4_bestSet_15 (by decide) hc ?_
      refine x_aload_n (pc := 18) B 0 dX4_bestSet_18 rfl rfl ?_
      refine x_iload_n (pc := 19) B 1 dX4_bestSet_19 rfl rfl ?_
      refine x_iload (pc := 20) B 4 dX4_bestSet_20 rfl ?_
      obtain ⟨q2, hq, h⟩ := xbind h
      refine x_callV1 (st := []) (pc := 22) B dX4_bestSet_22 (eX4_worth hq) xt_752 xt_58 np_X4_worth hy_X4_worth (Nat.le_of_ble_eq_true rfl) (Nat.le_of_ble_eq_true rfl) (Nat.le_of_ble_eq_true rfl) xt_751 xt_32 xt_749 rfl (iX4_worth hq) rfl ?_
      refine x_istore (L1 := [(5, .int q2.1), (0, .ref a0), (1, .int i1), (2, .int i2), (3, .int i3), (4, .int i4)]) (pc := 25) B dX4_bestSet_25 (by decide) rfl ?_
      refine x_iload (pc := 27) B 0 dX4_bestSet_27 rfl ?_
      refine x_iload_n (pc := 29) B 3 dX4_bestSet_29 rfl rfl ?_
      rcases xite h with ⟨hc, h⟩ | ⟨hc, h⟩
      · refine x_icmp_le_t (tgt := 40) (pc := 30) B dX4_bestSet_30 (by decide) hc ?_
        refine x_iload (pc := 40) B 0 dX4_bestSet_40 rfl ?_
        refine x_iload_n (pc := 42) B 3 dX4_bestSet_42 rfl rfl ?_
        rcases xite h with ⟨hc, h⟩ | ⟨hc, h⟩
        · refine x_icmp_ne_f (pc := 43) B 55 dX4_bestSet_43 (by decide) hc ?_
          refine x_iload_n (pc := 46) B 4 dX4_bestSet_46 rfl rfl ?_
          refine x_iconst (pc := 47) B dX4_bestSet_47 xk_iconst_1 ?_
          refine x_iload (pc := 48) B 5 dX4_bestSet_48 rfl ?_
          refine x_ishl (pc := 50) B dX4_bestSet_50 ?_
          refine x_ior (pc := 51) B dX4_bestSet_51 ?_
          refine x_goto (tgt := 56) (pc := 52) B dX4_bestSet_52 (by decide) ?_
          refine x_istore_n (L1 := [(3, .int (i3 ||| ((1 : Int32) <<< (i4 &&& 31)))), (5, .int q2.1), (0, .ref a0), (1, .int i1), (2, .int i2), (4, .int i4)]) (pc := 56) B dX4_bestSet_56 rfl (by decide) rfl ?_
          refine x_iload (pc := 57) B 1 dX4_bestSet_57 rfl ?_
          refine x_iload_n (pc := 59) B 4 dX4_bestSet_59 rfl rfl ?_
          rcases xite h with ⟨hc, h⟩ | ⟨hc, h⟩
          · refine x_icmp_le_t (tgt := 68) (pc := 60) B dX4_bestSet_60 (by decide) hc ?_
            refine x_iload_n (pc := 68) B 4 dX4_bestSet_68 rfl rfl ?_
            refine x_istore_n (L1 := [(2, .int i2), (3, .int (i3 ||| ((1 : Int32) <<< (i4 &&& 31)))), (5, .int q2.1), (0, .ref a0), (1, .int i1), (4, .int i4)]) (pc := 69) B dX4_bestSet_69 rfl (by decide) rfl ?_
            refine x_iinc (L1 := [(4, .int (i4 + (1 : Int32))), (2, .int i2), (3, .int (i3 ||| ((1 : Int32) <<< (i4 &&& 31)))), (5, .int q2.1), (0, .ref a0), (1, .int i1)]) (pc := 70) B 5 dX4_bestSet_70 rfl (congrArg _ xk_iconst_1) (by decide) rfl ?_
            refine x_goto (tgt := 12) (pc := 73) B dX4_bestSet_73 (by decide) ?_
            refine x_sub (L1 := [(0, .ref a0), (1, .int i1), (2, .int i2), (3, .int (i3 ||| ((1 : Int32) <<< (i4 &&& 31)))), (4, .int (i4 + (1 : Int32)))]) [4, 5, 1, 2, 0] rfl ?_
            exact ih a0 i1 i2 (i3 ||| ((1 : Int32) <<< (i4 &&& 31))) (i4 + (1 : Int32)) q2.2 h
          · refine x_icmp_le_f (pc := 60) B 68 dX4_bestSet_60 (by decide) hc ?_
            refine x_iload (pc := 63) B 1 dX4_bestSet_63 rfl ?_
            refine x_goto (tgt := 69) (pc := 65) B dX4_bestSet_65 (by decide) ?_
            refine x_istore_n (L1 := [(2, .int q2.1), (3, .int (i3 ||| ((1 : Int32) <<< (i4 &&& 31)))), (5, .int q2.1), (0, .ref a0), (1, .int i1), (4, .int i4)]) (pc := 69) B dX4_bestSet_69 rfl (by decide) rfl ?_
            refine x_iinc (L1 := [(4, .int (i4 + (1 : Int32))), (2, .int q2.1), (3, .int (i3 ||| ((1 : Int32) <<< (i4 &&& 31)))), (5, .int q2.1), (0, .ref a0), (1, .int i1)]) (pc := 70) B 5 dX4_bestSet_70 rfl (congrArg _ xk_iconst_1) (by decide) rfl ?_
            refine x_goto (tgt := 12) (pc := 73) B dX4_bestSet_73 (by decide) ?_
            refine x_sub (L1 := [(0, .ref a0), (1, .int i1), (2, .int q2.1), (3, .int (i3 ||| ((1 : Int32) <<< (i4 &&& 31)))), (4, .int (i4 + (1 : Int32)))]) [4, 5, 1, 2, 0] rfl ?_
            exact ih a0 i1 q2.1 (i3 ||| ((1 : Int32) <<< (i4 &&& 31))) (i4 + (1 : Int32)) q2.2 h
        · refine x_icmp_ne_t (tgt := 55) (pc := 43) B dX4_bestSet_43 (by decide) hc ?_
          refine x_iload_n (pc := 55) B 4 dX4_bestSet_55 rfl rfl ?_
          refine x_istore_n (L1 := [(3, .int i3), (5, .int q2.1), (0, .ref a0), (1, .int i1), (2, .int i2), (4, .int i4)]) (pc := 56) B dX4_bestSet_56 rfl (by decide) rfl ?_
          refine x_iload (pc := 57) B 1 dX4_bestSet_57 rfl ?_
          refine x_iload_n (pc := 59) B 4 dX4_bestSet_59 rfl rfl ?_
          rcases xite h with ⟨hc, h⟩ | ⟨hc, h⟩
          · refine x_icmp_le_t (tgt := 68) (pc := 60) B dX4_bestSet_60 (by decide) hc ?_
            refine x_iload_n (pc := 68) B 4 dX4_bestSet_68 rfl rfl ?_
            refine x_istore_n (L1 := [(2, .int i2), (3, .int i3), (5, .int q2.1), (0, .ref a0), (1, .int i1), (4, .int i4)]) (pc := 69) B dX4_bestSet_69 rfl (by decide) rfl ?_
            refine x_iinc (L1 := [(4, .int (i4 + (1 : Int32))), (2, .int i2), (3, .int i3), (5, .int q2.1), (0, .ref a0), (1, .int i1)]) (pc := 70) B 5 dX4_bestSet_70 rfl (congrArg _ xk_iconst_1) (by decide) rfl ?_
            refine x_goto (tgt := 12) (pc := 73) B dX4_bestSet_73 (by decide) ?_
            refine x_sub (L1 := [(0, .ref a0), (1, .int i1), (2, .int i2), (3, .int i3), (4, .int (i4 + (1 : Int32)))]) [4, 5, 1, 2, 0] rfl ?_
            exact ih a0 i1 i2 i3 (i4 + (1 : Int32)) q2.2 h
          · refine x_icmp_le_f (pc := 60) B 68 dX4_bestSet_60 (by decide) hc ?_
            refine x_iload (pc := 63) B 1 dX4_bestSet_63 rfl ?_
            refine x_goto (tgt := 69) (pc := 65) B dX4_bestSet_65 (by decide) ?_
            refine x_istore_n (L1 := [(2, .int q2.1), (3, .int i3), (5, .int q2.1), (0, .ref a0), (1, .int i1), (4, .int i4)]) (pc := 69) B dX4_bestSet_69 rfl (by decide) rfl ?_
            refine x_iinc (L1 := [(4, .int (i4 + (1 : Int32))), (2, .int q2.1), (3, .int i3), (5, .int q2.1), (0, .ref a0), (1, .int i1)]) (pc := 70) B 5 dX4_bestSet_70 rfl (congrArg _ xk_iconst_1) (by decide) rfl ?_
            refine x_goto (tgt := 12) (pc := 73) B dX4_bestSet_73 (by decide) ?_
            refine x_sub (L1 := [(0, .ref a0), (1, .int i1), (2, .int q2.1), (3, .int i3), (4, .int (i4 + (1 : Int32)))]) [4, 5, 1, 2, 0] rfl ?_
            exact ih a0 i1 q2.1 i3 (i4 + (1 : Int32)) q2.2 h
      · refine x_icmp_le_f (pc := 30) B 40 dX4_bestSet_30 (by decide) hc ?_
        refine x_iconst (pc := 33) B dX4_bestSet_33 xk_iconst_1 ?_
        refine x_iload (pc := 34) B 5 dX4_bestSet_34 rfl ?_
        refine x_ishl (pc := 36) B dX4_bestSet_36 ?_
        refine x_goto (tgt := 56) (pc := 37) B dX4_bestSet_37 (by decide) ?_
        refine x_istore_n (L1 := [(3, .int ((1 : Int32) <<< (i4 &&& 31))), (5, .int q2.1), (0, .ref a0), (1, .int i1), (2, .int i2), (4, .int i4)]) (pc := 56) B dX4_bestSet_56 rfl (by decide) rfl ?_
        refine x_iload (pc := 57) B 1 dX4_bestSet_57 rfl ?_
        refine x_iload_n (pc := 59) B 4 dX4_bestSet_59 rfl rfl ?_
        rcases xite h with ⟨hc, h⟩ | ⟨hc, h⟩
        · refine x_icmp_le_t (tgt := 68) (pc := 60) B dX4_bestSet_60 (by decide) hc ?_
          refine x_iload_n (pc := 68) B 4 dX4_bestSet_68 rfl rfl ?_
          refine x_istore_n (L1 := [(2, .int i2), (3, .int ((1 : Int32) <<< (i4 &&& 31))), (5, .int q2.1), (0, .ref a0), (1, .int i1), (4, .int i4)]) (pc := 69) B dX4_bestSet_69 rfl (by decide) rfl ?_
          refine x_iinc (L1 := [(4, .int (i4 + (1 : Int32))), (2, .int i2), (3, .int ((1 : Int32) <<< (i4 &&& 31))), (5, .int q2.1), (0, .ref a0), (1, .int i1)]) (pc := 70) B 5 dX4_bestSet_70 rfl (congrArg _ xk_iconst_1) (by decide) rfl ?_
          refine x_goto (tgt := 12) (pc := 73) B dX4_bestSet_73 (by decide) ?_
          refine x_sub (L1 := [(0, .ref a0), (1, .int i1), (2, .int i2), (3, .int ((1 : Int32) <<< (i4 &&& 31))), (4, .int (i4 + (1 : Int32)))]) [4, 5, 1, 2, 0] rfl ?_
          exact ih a0 i1 i2 ((1 : Int32) <<< (i4 &&& 31)) (i4 + (1 : Int32)) q2.2 h
        · refine x_icmp_le_f (pc := 60) B 68 dX4_bestSet_60 (by decide) hc ?_
          refine x_iload (pc := 63) B 1 dX4_bestSet_63 rfl ?_
          refine x_goto (tgt := 69) (pc := 65) B dX4_bestSet_65 (by decide) ?_
          refine x_istore_n (L1 := [(2, .int q2.1), (3, .int ((1 : Int32) <<< (i4 &&& 31))), (5, .int q2.1), (0, .ref a0), (1, .int i1), (4, .int i4)]) (pc := 69) B dX4_bestSet_69 rfl (by decide) rfl ?_
          refine x_iinc (L1 := [(4, .int (i4 + (1 : Int32))), (2, .int q2.1), (3, .int ((1 : Int32) <<< (i4 &&& 31))), (5, .int q2.1), (0, .ref a0), (1, .int i1)]) (pc := 70) B 5 dX4_bestSet_70 rfl (congrArg _ xk_iconst_1) (by decide) rfl ?_
          refine x_goto (tgt := 12) (pc := 73) B dX4_bestSet_73 (by decide) ?_
          refine x_sub (L1 := [(0, .ref a0), (1, .int i1), (2, .int q2.1), (3, .int ((1 : Int32) <<< (i4 &&& 31))), (4, .int (i4 + (1 : Int32)))]) [4, 5, 1, 2, 0] rfl ?_
          exact ih a0 i1 q2.1 ((1 : Int32) <<< (i4 &&& 31)) (i4 + (1 : Int32)) q2.2 h
def fX4_bestSet (a0 : Nat) (i1 : Int32) (w : XW) : Option (Int32 × XW) := if xis w a0 4 = true then
  (fX4_worth a0 i1 (0 : Int32) w).bind fun q1 =>
  fX4_bestSet_12 1000 a0 i1 q1.1 (1 : Int32) (1 : Int32) q1.2
  else none
theorem iX4_bestSet {a0 : Nat} {i1 : Int32} {w : XW} {R9 : (Int32 × XW)} (h : fX4_bestSet a0 i1 w = some R9) : xis w a0 4 = true := by
  unfold fX4_bestSet at h
  rcases xite h with ⟨hc, h⟩ | ⟨hc, h⟩
  · exact hc
  · exact absurd h (by simp)
theorem np_X4_bestSet : (parseMethodDescriptor yX4_bestSet.desc).map (fun d => d.parameters.length) = some 1 := by decide +kernel
theorem hy_X4_bestSet : yX4_bestSet.cls ≠ "java/lang/invoke/MethodHandle" ∧ yX4_bestSet.cls ≠ "java/lang/invoke/VarHandle" := ⟨by decide +kernel, by decide +kernel⟩
set_option maxRecDepth 20000 in
theorem eX4_bestSet {cx : CX} {a0 : Nat} {i1 : Int32} {w : XW} {R9 : (Int32 × XW)} (h : fX4_bestSet a0 i1 w = some R9) : Ct yX4_bestSet cX4_bestSet 6 (some .int) 2 47 cx [.ref a0, .int i1] w (some (.int R9.1)) R9.2 := by
  refine Ct_of (by decide +kernel) (Nat.le_of_ble_eq_true rfl) (fun K B hR => ?_)
  rw [fX4_bestSet] at h
  show Wx K cx 6 w.length 0 [(0, .ref a0), (1, .int i1)] [] w
  rcases xite h with ⟨hc, h⟩ | ⟨hc, h⟩
  · skip
    refine x_aload_n (pc := 0) B 0 dX4_bestSet_0 rfl rfl ?_
    refine x_iload_n (pc := 1) B 1 dX4_bestSet_1 rfl rfl ?_
    refine x_iconst (pc := 2) B dX4_bestSet_2 xk_iconst_0 ?_
    obtain ⟨q1, hq, h⟩ := xbind h
    refine x_callV1 (st := []) (pc := 3) B dX4_bestSet_3 (eX4_worth hq) xt_752 xt_58 np_X4_worth hy_X4_worth (Nat.le_of_ble_eq_true rfl) (Nat.le_of_ble_eq_true rfl) (Nat.le_of_ble_eq_true rfl) xt_751 xt_32 xt_749 rfl (iX4_worth hq) rfl ?_
    refine x_istore_n (L1 := [(2, .int q1.1), (0, .ref a0), (1, .int i1)]) (pc := 6) B dX4_bestSet_6 rfl (by decide) rfl ?_
    refine x_iconst (pc := 7) B dX4_bestSet_7 xk_iconst_1 ?_
    refine x_istore_n (L1 := [(3, .int (1 : Int32)), (2, .int q1.1), (0, .ref a0), (1, .int i1)]) (pc := 8) B dX4_bestSet_8 rfl (by decide) rfl ?_
    refine x_iconst (pc := 9) B dX4_bestSet_9 xk_iconst_1 ?_
    refine x_istore (L1 := [(4, .int (1 : Int32)), (3, .int (1 : Int32)), (2, .int q1.1), (0, .ref a0), (1, .int i1)]) (pc := 10) B dX4_bestSet_10 (by decide) rfl ?_
    refine x_sub (L1 := [(0, .ref a0), (1, .int i1), (2, .int q1.1), (3, .int (1 : Int32)), (4, .int (1 : Int32))]) [3, 4, 2, 1, 0] rfl ?_
    exact pX4_bestSet_12 B hR 1000 a0 i1 q1.1 (1 : Int32) (1 : Int32) q1.2 h
  · exact absurd h (by simp)
def fX4_best (a0 : Nat) (i1 : Int32) (w : XW) : Option (Int32 × XW) := if xis w a0 4 = true then
  (fX4_believes a0 i1 w).bind fun q1 =>
  (fX4_bestSet a0 i1 q1).bind fun q2 =>
  some (q2.1, q2.2)
  else none
theorem iX4_best {a0 : Nat} {i1 : Int32} {w : XW} {R9 : (Int32 × XW)} (h : fX4_best a0 i1 w = some R9) : xis w a0 4 = true := by
  unfold fX4_best at h
  rcases xite h with ⟨hc, h⟩ | ⟨hc, h⟩
  · exact hc
  · exact absurd h (by simp)
theorem np_X4_best : (parseMethodDescriptor yX4_best.desc).map (fun d => d.parameters.length) = some 1 := by decide +kernel
theorem hy_X4_best : yX4_best.cls ≠ "java/lang/invoke/MethodHandle" ∧ yX4_best.cls ≠ "java/lang/invoke/VarHandle" := ⟨by decide +kernel, by decide +kernel⟩
set_option maxRecDepth 20000 in
theorem eX4_best {cx : CX} {a0 : Nat} {i1 : Int32} {w : XW} {R9 : (Int32 × XW)} (h : fX4_best a0 i1 w = some R9) : Ct yX4_best cX4_best 2 (some .int) 3 72 cx [.ref a0, .int i1] w (some (.int R9.1)) R9.2 := by
  refine Ct_of (by decide +kernel) (Nat.le_of_ble_eq_true rfl) (fun K B hR => ?_)
  rw [fX4_best] at h
  show Wx K cx 2 w.length 0 [(0, .ref a0), (1, .int i1)] [] w
  rcases xite h with ⟨hc, h⟩ | ⟨hc, h⟩
  · skip
    refine x_aload_n (pc := 0) B 0 dX4_best_0 rfl rfl ?_
    refine x_iload_n (pc := 1) B 1 dX4_best_1 rfl rfl ?_
    obtain ⟨q1, hq, h⟩ := xbind h
    refine x_callV0 (st := []) (pc := 2) B dX4_best_2 (eX4_believes hq) xt_740 xt_58 np_X4_believes hy_X4_believes (Nat.le_of_ble_eq_true rfl) (Nat.le_of_ble_eq_true rfl) (Nat.le_of_ble_eq_true rfl) xt_739 xt_29 xt_737 rfl (iX4_believes hq) rfl ?_
    refine x_aload_n (pc := 5) B 0 dX4_best_5 rfl rfl ?_
    refine x_iload_n (pc := 6) B 1 dX4_best_6 rfl rfl ?_
    obtain ⟨q2, hq, h⟩ := xbind h
    refine x_callV1 (st := []) (pc := 7) B dX4_best_7 (eX4_bestSet hq) xt_748 xt_58 np_X4_bestSet hy_X4_bestSet (Nat.le_of_ble_eq_true rfl) (Nat.le_of_ble_eq_true rfl) (Nat.le_of_ble_eq_true rfl) xt_747 xt_31 xt_745 rfl (iX4_bestSet hq) rfl ?_
    exact x_iret (pc := 10) B hR dX4_best_10 (xzI _) h
  · exact absurd h (by simp)
def fX4_wrong_2 : Nat → Nat → Int32 → XW → Option (Int32 × XW)
  | 0, _, _, _ => none
  | g + 1, a0, i1, w =>
    if (3 : Int32) ≤ i1 then
      some ((-6 : Int32), w)
    else
    (fX4_best a0 i1 w).bind fun q1 =>
    (xgR q1.2 a0 4 10).bind fun v2 =>
    (xaI q1.2 v2 ((3 : Int32) + i1)).bind fun v3 =>
    if ((q1.1 >>> (v3 &&& 31)) &&& (1 : Int32)) = (0 : Int32) then
      some (i1, q1.2)
    else
    fX4_wrong_2 g a0 (i1 + (1 : Int32)) q1.2
set_option maxRecDepth 20000 in
theorem pX4_wrong_2 {K : KX} {cx : CX} {nn : Nat} {R9 : Int32 × XW} (B : XB K cx RX4 cX4_wrong 2 nn 4 93) (hR : XR K cx nn (some .int) (some (.int R9.1)) R9.2) : ∀ (g : Nat) (a0 : Nat) (i1 : Int32) (w : XW), fX4_wrong_2 g a0 i1 w = some R9 → Wx K cx 2 nn 2 [(0, .ref a0), (1, .int i1)] [] w := by
  intro g
  induction g with
  | zero =>
    intro a0 i1 w h
    exact absurd (show (none : Option (Int32 × XW)) = some R9 from h) (by simp)
  | succ g ih =>
    intro a0 i1 w h
    rw [fX4_wrong_2] at h
    refine x_iload_n (pc := 2) B 1 dX4_wrong_2 rfl rfl ?_
    refine x_iconst (pc := 3) B dX4_wrong_3 xk_iconst_3 ?_
    rcases xite h with ⟨hc, h⟩ | ⟨hc, h⟩
    · refine x_icmp_ge_t (tgt := 34) (pc := 4) B dX4_wrong_4 (by decide) hc ?_
      refine x_bipush (pc := 34) B dX4_wrong_34 xk_bipush_m6 ?_
      exact x_iret (pc := 36) B hR dX4_wrong_36 (xzI _) h
    · refine x_icmp_ge_f (pc := 4) B 34 dX4_wrong_4 (by decide) hc ?_
      refine x_aload_n (pc := 7) B 0 dX4_wrong_7 rfl rfl ?_
      refine x_iload_n (pc := 8) B 1 dX4_wrong_8 rfl rfl ?_
      obtain ⟨q1, hq, h⟩ := xbind h
      refine x_callV1 (st := []) (pc := 9) B dX4_wrong_9 (eX4_best hq) xt_736 xt_58 np_X4_best hy_X4_best (Nat.le_of_ble_eq_true rfl) (Nat.le_of_ble_eq_true rfl) (Nat.le_of_ble_eq_true rfl) xt_735 xt_28 xt_733 rfl (iX4_best hq) rfl ?_
      refine x_aload_n (pc := 12) B 0 dX4_wrong_12 rfl rfl ?_
      obtain ⟨v2, hv, h⟩ := xbind h
      refine x_getR (k0 := 10) (pc := 13) B dX4_wrong_13 rfl xi_4 (by decide) ⟨rfl, rfl, rfl⟩ xt_612 hv ?_
      refine x_iconst (pc := 16) B dX4_wrong_16 xk_iconst_3 ?_
      refine x_iload_n (pc := 17) B 1 dX4_wrong_17 rfl rfl ?_
      refine x_iadd (pc := 18) B dX4_wrong_18 ?_
      obtain ⟨v3, hv, h⟩ := xbind h
      refine x_iald (pc := 19) B dX4_wrong_19 hv ?_
      refine x_ishr (pc := 20) B dX4_wrong_20 ?_
      refine x_iconst (pc := 21) B dX4_wrong_21 xk_iconst_1 ?_
      refine x_iand (pc := 22) B dX4_wrong_22 ?_
      rcases xite h with ⟨hc, h⟩ | ⟨hc, h⟩
      · refine x_if_ne_f (pc := 23) B 28 dX4_wrong_23 (by decide) hc ?_
        refine x_iload_n (pc := 26) B 1 dX4_wrong_26 rfl rfl ?_
        exact x_iret (pc := 27) B hR dX4_wrong_27 (xzI _) h
      · refine x_if_ne_t (tgt := 28) (pc := 23) B dX4_wrong_23 (by decide) hc ?_
        refine x_iinc (L1 := [(1, .int (i1 + (1 : Int32))), (0, .ref a0)]) (pc := 28) B 1 dX4_wrong_28 rfl (congrArg _ xk_iconst_1) (by decide) rfl ?_
        refine x_goto (tgt := 2) (pc := 31) B dX4_wrong_31 (by decide) ?_
        refine x_sub (L1 := [(0, .ref a0), (1, .int (i1 + (1 : Int32)))]) [1, 0] rfl ?_
        exact ih a0 (i1 + (1 : Int32)) q1.2 h
def fX4_wrong (a0 : Nat) (w : XW) : Option (Int32 × XW) := if xis w a0 4 = true then
  fX4_wrong_2 1000 a0 (0 : Int32) w
  else none
theorem iX4_wrong {a0 : Nat} {w : XW} {R9 : (Int32 × XW)} (h : fX4_wrong a0 w = some R9) : xis w a0 4 = true := by
  unfold fX4_wrong at h
  rcases xite h with ⟨hc, h⟩ | ⟨hc, h⟩
  · exact hc
  · exact absurd h (by simp)
theorem np_X4_wrong : (parseMethodDescriptor yX4_wrong.desc).map (fun d => d.parameters.length) = some 0 := by decide +kernel
theorem hy_X4_wrong : yX4_wrong.cls ≠ "java/lang/invoke/MethodHandle" ∧ yX4_wrong.cls ≠ "java/lang/invoke/VarHandle" := ⟨by decide +kernel, by decide +kernel⟩
set_option maxRecDepth 20000 in
theorem eX4_wrong {cx : CX} {a0 : Nat} {w : XW} {R9 : (Int32 × XW)} (h : fX4_wrong a0 w = some R9) : Ct yX4_wrong cX4_wrong 2 (some .int) 4 93 cx [.ref a0] w (some (.int R9.1)) R9.2 := by
  refine Ct_of (by decide +kernel) (Nat.le_of_ble_eq_true rfl) (fun K B hR => ?_)
  rw [fX4_wrong] at h
  show Wx K cx 2 w.length 0 [(0, .ref a0)] [] w
  rcases xite h with ⟨hc, h⟩ | ⟨hc, h⟩
  · skip
    refine x_iconst (pc := 0) B dX4_wrong_0 xk_iconst_0 ?_
    refine x_istore_n (L1 := [(1, .int (0 : Int32)), (0, .ref a0)]) (pc := 1) B dX4_wrong_1 rfl (by decide) rfl ?_
    refine x_sub (L1 := [(0, .ref a0), (1, .int (0 : Int32))]) [1, 0] rfl ?_
    exact pX4_wrong_2 B hR 1000 a0 (0 : Int32) w h
  · exact absurd h (by simp)
def fX4_holds (a0 : Nat) (w : XW) : Option (Int32 × XW) := if xis w a0 4 = true then
  (fX4_unhappy a0 w).bind fun q1 =>
  if q1.1 = (-6 : Int32) then
    (fX4_wrong a0 q1.2).bind fun q2 =>
    if q2.1 = (-6 : Int32) then
      some ((1 : Int32), q2.2)
    else
    some ((0 : Int32), q2.2)
  else
  some ((0 : Int32), q1.2)
  else none
theorem iX4_holds {a0 : Nat} {w : XW} {R9 : (Int32 × XW)} (h : fX4_holds a0 w = some R9) : xis w a0 4 = true := by
  unfold fX4_holds at h
  rcases xite h with ⟨hc, h⟩ | ⟨hc, h⟩
  · exact hc
  · exact absurd h (by simp)
theorem np_X4_holds : (parseMethodDescriptor yX4_holds.desc).map (fun d => d.parameters.length) = some 0 := by decide +kernel
theorem hy_X4_holds : yX4_holds.cls ≠ "java/lang/invoke/MethodHandle" ∧ yX4_holds.cls ≠ "java/lang/invoke/VarHandle" := ⟨by decide +kernel, by decide +kernel⟩
set_option maxRecDepth 20000 in
theorem eX4_holds {cx : CX} {a0 : Nat} {w : XW} {R9 : (Int32 × XW)} (h : fX4_holds a0 w = some R9) : Ct yX4_holds cX4_holds 1 (some .boolean) 5 114 cx [.ref a0] w (some (.int R9.1)) R9.2 := by
  refine Ct_of (by decide +kernel) (Nat.le_of_ble_eq_true rfl) (fun K B hR => ?_)
  rw [fX4_holds] at h
  show Wx K cx 1 w.length 0 [(0, .ref a0)] [] w
  rcases xite h with ⟨hc, h⟩ | ⟨hc, h⟩
  · skip
    refine x_aload_n (pc := 0) B 0 dX4_holds_0 rfl rfl ?_
    obtain ⟨q1, hq, h⟩ := xbind h
    refine x_callV1 (st := []) (pc := 1) B dX4_holds_1 (eX4_unhappy hq) xt_712 xt_58 np_X4_unhappy hy_X4_unhappy (Nat.le_of_ble_eq_true rfl) (Nat.le_of_ble_eq_true rfl) (Nat.le_of_ble_eq_true rfl) xt_711 xt_22 xt_709 rfl (iX4_unhappy hq) rfl ?_
    refine x_bipush (pc := 4) B dX4_holds_4 xk_bipush_m6 ?_
    rcases xite h with ⟨hc, h⟩ | ⟨hc, h⟩
    · refine x_icmp_ne_f (pc := 6) B 22 dX4_holds_6 (by decide) hc ?_
      refine x_aload_n (pc := 9) B 0 dX4_holds_9 rfl rfl ?_
      obtain ⟨q2, hq, h⟩ := xbind h
      refine x_callV1 (st := []) (pc := 10) B dX4_holds_10 (eX4_wrong hq) xt_732 xt_58 np_X4_wrong hy_X4_wrong (Nat.le_of_ble_eq_true rfl) (Nat.le_of_ble_eq_true rfl) (Nat.le_of_ble_eq_true rfl) xt_731 xt_27 xt_729 rfl (iX4_wrong hq) rfl ?_
      refine x_bipush (pc := 13) B dX4_holds_13 xk_bipush_m6 ?_
      rcases xite h with ⟨hc, h⟩ | ⟨hc, h⟩
      · refine x_icmp_ne_f (pc := 15) B 22 dX4_holds_15 (by decide) hc ?_
        refine x_iconst (pc := 18) B dX4_holds_18 xk_iconst_1 ?_
        refine x_goto (tgt := 23) (pc := 19) B dX4_holds_19 (by decide) ?_
        exact x_iret (pc := 23) B hR dX4_holds_23 xz1 h
      · refine x_icmp_ne_t (tgt := 22) (pc := 15) B dX4_holds_15 (by decide) hc ?_
        refine x_iconst (pc := 22) B dX4_holds_22 xk_iconst_0 ?_
        exact x_iret (pc := 23) B hR dX4_holds_23 xz0 h
    · refine x_icmp_ne_t (tgt := 22) (pc := 6) B dX4_holds_6 (by decide) hc ?_
      refine x_iconst (pc := 22) B dX4_holds_22 xk_iconst_0 ?_
      exact x_iret (pc := 23) B hR dX4_holds_23 xz0 h
  · exact absurd h (by simp)
def fX4_codeAt_4 : Nat → Nat → Int32 → Int32 → Int32 → XW → Option (Int32 × XW)
  | 0, _, _, _, _, _ => none
  | g + 1, a0, i1, i2, i3, w =>
    if (729 : Int32) ≤ i3 then
      some ((-1 : Int32), w)
    else
    (fX4_looksAt a0 i3 w).bind fun q1 =>
    (fX4_holds a0 q1).bind fun q2 =>
    if q2.1 = (0 : Int32) then
      fX4_codeAt_4 g a0 i1 i2 (i3 + (1 : Int32)) q2.2
    else
    if i2 = i1 then
      some (i3, q2.2)
    else
    fX4_codeAt_4 g a0 i1 (i2 + (1 : Int32)) (i3 + (1 : Int32)) q2.2
set_option maxRecDepth 20000 in
theorem pX4_codeAt_4 {K : KX} {cx : CX} {nn : Nat} {R9 : Int32 × XW} (B : XB K cx RX4 cX4_codeAt 4 nn 6 134) (hR : XR K cx nn (some .int) (some (.int R9.1)) R9.2) : ∀ (g : Nat) (a0 : Nat) (i1 : Int32) (i2 : Int32) (i3 : Int32) (w : XW), fX4_codeAt_4 g a0 i1 i2 i3 w = some R9 → Wx K cx 4 nn 4 [(0, .ref a0), (1, .int i1), (2, .int i2), (3, .int i3)] [] w := by
  intro g
  induction g with
  | zero =>
    intro a0 i1 i2 i3 w h
    exact absurd (show (none : Option (Int32 × XW)) = some R9 from h) (by simp)
  | succ g ih =>
    intro a0 i1 i2 i3 w h
    rw [fX4_codeAt_4] at h
    refine x_iload_n (pc := 4) B 3 dX4_codeAt_4 rfl rfl ?_
    refine x_sipush (pc := 5) B dX4_codeAt_5 xk_sipush_729 ?_
    rcases xite h with ⟨hc, h⟩ | ⟨hc, h⟩
    · refine x_icmp_ge_t (tgt := 39) (pc := 8) B dX4_codeAt_8 (by decide) hc ?_
      refine x_iconst (pc := 39) B dX4_codeAt_39 xk_iconst_m1 ?_
      exact x_iret (pc := 40) B hR dX4_codeAt_40 (xzI _) h
    · refine x_icmp_ge_f (pc := 8) B 39 dX4_codeAt_8 (by decide) hc ?_
      refine x_aload_n (pc := 11) B 0 dX4_codeAt_11 rfl rfl ?_
      refine x_iload_n (pc := 12) B 3 dX4_codeAt_12 rfl rfl ?_
      obtain ⟨q1, hq, h⟩ := xbind h
      refine x_callV0 (st := []) (pc := 13) B dX4_codeAt_13 (eX4_looksAt hq) xt_704 xt_58 np_X4_looksAt hy_X4_looksAt (Nat.le_of_ble_eq_true rfl) (Nat.le_of_ble_eq_true rfl) (Nat.le_of_ble_eq_true rfl) xt_703 xt_20 xt_701 rfl (iX4_looksAt hq) rfl ?_
      refine x_aload_n (pc := 16) B 0 dX4_codeAt_16 rfl rfl ?_
      obtain ⟨q2, hq, h⟩ := xbind h
      refine x_callV1 (st := []) (pc := 17) B dX4_codeAt_17 (eX4_holds hq) xt_708 xt_58 np_X4_holds hy_X4_holds (Nat.le_of_ble_eq_true rfl) (Nat.le_of_ble_eq_true rfl) (Nat.le_of_ble_eq_true rfl) xt_707 xt_21 xt_705 rfl (iX4_holds hq) rfl ?_
      rcases xite h with ⟨hc, h⟩ | ⟨hc, h⟩
      · refine x_if_eq_t (tgt := 33) (pc := 20) B dX4_codeAt_20 (by decide) hc ?_
        refine x_iinc (L1 := [(3, .int (i3 + (1 : Int32))), (0, .ref a0), (1, .int i1), (2, .int i2)]) (pc := 33) B 3 dX4_codeAt_33 rfl (congrArg _ xk_iconst_1) (by decide) rfl ?_
        refine x_goto (tgt := 4) (pc := 36) B dX4_codeAt_36 (by decide) ?_
        refine x_sub (L1 := [(0, .ref a0), (1, .int i1), (2, .int i2), (3, .int (i3 + (1 : Int32)))]) [1, 2, 3, 0] rfl ?_
        exact ih a0 i1 i2 (i3 + (1 : Int32)) q2.2 h
      · refine x_if_eq_f (pc := 20) B 33 dX4_codeAt_20 (by decide) hc ?_
        refine x_iload_n (pc := 23) B 2 dX4_codeAt_23 rfl rfl ?_
        refine x_iload_n (pc := 24) B 1 dX4_codeAt_24 rfl rfl ?_
        rcases xite h with ⟨hc, h⟩ | ⟨hc, h⟩
        · refine x_icmp_ne_f (pc := 25) B 30 dX4_codeAt_25 (by decide) hc ?_
          refine x_iload_n (pc := 28) B 3 dX4_codeAt_28 rfl rfl ?_
          exact x_iret (pc := 29) B hR dX4_codeAt_29 (xzI _) h
        · refine x_icmp_ne_t (tgt := 30) (pc := 25) B dX4_codeAt_25 (by decide) hc ?_
          refine x_iinc (L1 := [(2, .int (i2 + (1 : Int32))), (0, .ref a0), (1, .int i1), (3, .int i3)]) (pc := 30) B 2 dX4_codeAt_30 rfl (congrArg _ xk_iconst_1) (by decide) rfl ?_
          refine x_iinc (L1 := [(3, .int (i3 + (1 : Int32))), (2, .int (i2 + (1 : Int32))), (0, .ref a0), (1, .int i1)]) (pc := 33) B 3 dX4_codeAt_33 rfl (congrArg _ xk_iconst_1) (by decide) rfl ?_
          refine x_goto (tgt := 4) (pc := 36) B dX4_codeAt_36 (by decide) ?_
          refine x_sub (L1 := [(0, .ref a0), (1, .int i1), (2, .int (i2 + (1 : Int32))), (3, .int (i3 + (1 : Int32)))]) [2, 3, 1, 0] rfl ?_
          exact ih a0 i1 (i2 + (1 : Int32)) (i3 + (1 : Int32)) q2.2 h
def fX4_codeAt (a0 : Nat) (i1 : Int32) (w : XW) : Option (Int32 × XW) := if xis w a0 4 = true then
  fX4_codeAt_4 1000 a0 i1 (0 : Int32) (0 : Int32) w
  else none
theorem iX4_codeAt {a0 : Nat} {i1 : Int32} {w : XW} {R9 : (Int32 × XW)} (h : fX4_codeAt a0 i1 w = some R9) : xis w a0 4 = true := by
  unfold fX4_codeAt at h
  rcases xite h with ⟨hc, h⟩ | ⟨hc, h⟩
  · exact hc
  · exact absurd h (by simp)
theorem np_X4_codeAt : (parseMethodDescriptor yX4_codeAt.desc).map (fun d => d.parameters.length) = some 1 := by decide +kernel
theorem hy_X4_codeAt : yX4_codeAt.cls ≠ "java/lang/invoke/MethodHandle" ∧ yX4_codeAt.cls ≠ "java/lang/invoke/VarHandle" := ⟨by decide +kernel, by decide +kernel⟩
set_option maxRecDepth 20000 in
theorem eX4_codeAt {cx : CX} {a0 : Nat} {i1 : Int32} {w : XW} {R9 : (Int32 × XW)} (h : fX4_codeAt a0 i1 w = some R9) : Ct yX4_codeAt cX4_codeAt 4 (some .int) 6 134 cx [.ref a0, .int i1] w (some (.int R9.1)) R9.2 := by
  refine Ct_of (by decide +kernel) (Nat.le_of_ble_eq_true rfl) (fun K B hR => ?_)
  rw [fX4_codeAt] at h
  show Wx K cx 4 w.length 0 [(0, .ref a0), (1, .int i1)] [] w
  rcases xite h with ⟨hc, h⟩ | ⟨hc, h⟩
  · skip
    refine x_iconst (pc := 0) B dX4_codeAt_0 xk_iconst_0 ?_
    refine x_istore_n (L1 := [(2, .int (0 : Int32)), (0, .ref a0), (1, .int i1)]) (pc := 1) B dX4_codeAt_1 rfl (by decide) rfl ?_
    refine x_iconst (pc := 2) B dX4_codeAt_2 xk_iconst_0 ?_
    refine x_istore_n (L1 := [(3, .int (0 : Int32)), (2, .int (0 : Int32)), (0, .ref a0), (1, .int i1)]) (pc := 3) B dX4_codeAt_3 rfl (by decide) rfl ?_
    refine x_sub (L1 := [(0, .ref a0), (1, .int i1), (2, .int (0 : Int32)), (3, .int (0 : Int32))]) [2, 3, 1, 0] rfl ?_
    exact pX4_codeAt_4 B hR 1000 a0 i1 (0 : Int32) (0 : Int32) w h
  · exact absurd h (by simp)
def fX4_there_4 : Nat → Nat → Int32 → Int32 → XW → Option (Int32 × XW)
  | 0, _, _, _, _ => none
  | g + 1, a0, i1, i2, w =>
    if (3 : Int32) ≤ i2 then
      some (i1, w)
    else
    (fX4_isThere a0 i2 w).bind fun q1 =>
    if q1.1 = (0 : Int32) then
      fX4_there_4 g a0 (i1 ||| (0 : Int32)) (i2 + (1 : Int32)) q1.2
    else
    fX4_there_4 g a0 (i1 ||| ((1 : Int32) <<< (i2 &&& 31))) (i2 + (1 : Int32)) q1.2
set_option maxRecDepth 20000 in
theorem pX4_there_4 {K : KX} {cx : CX} {nn : Nat} {R9 : Int32 × XW} (B : XB K cx RX4 cX4_there 3 nn 1 21) (hR : XR K cx nn (some .int) (some (.int R9.1)) R9.2) : ∀ (g : Nat) (a0 : Nat) (i1 : Int32) (i2 : Int32) (w : XW), fX4_there_4 g a0 i1 i2 w = some R9 → Wx K cx 3 nn 4 [(0, .ref a0), (1, .int i1), (2, .int i2)] [] w := by
  intro g
  induction g with
  | zero =>
    intro a0 i1 i2 w h
    exact absurd (show (none : Option (Int32 × XW)) = some R9 from h) (by simp)
  | succ g ih =>
    intro a0 i1 i2 w h
    rw [fX4_there_4] at h
    refine x_iload_n (pc := 4) B 2 dX4_there_4 rfl rfl ?_
    refine x_iconst (pc := 5) B dX4_there_5 xk_iconst_3 ?_
    rcases xite h with ⟨hc, h⟩ | ⟨hc, h⟩
    · refine x_icmp_ge_t (tgt := 33) (pc := 6) B dX4_there_6 (by decide) hc ?_
      refine x_iload_n (pc := 33) B 1 dX4_there_33 rfl rfl ?_
      exact x_iret (pc := 34) B hR dX4_there_34 (xzI _) h
    · refine x_icmp_ge_f (pc := 6) B 33 dX4_there_6 (by decide) hc ?_
      refine x_iload_n (pc := 9) B 1 dX4_there_9 rfl rfl ?_
      refine x_aload_n (pc := 10) B 0 dX4_there_10 rfl rfl ?_
      refine x_iload_n (pc := 11) B 2 dX4_there_11 rfl rfl ?_
      obtain ⟨q1, hq, h⟩ := xbind h
      refine x_callV1 (st := [.int i1]) (pc := 12) B dX4_there_12 (eX4_isThere hq) xt_716 xt_58 np_X4_isThere hy_X4_isThere (Nat.le_of_ble_eq_true rfl) (Nat.le_of_ble_eq_true rfl) (Nat.le_of_ble_eq_true rfl) xt_715 xt_23 xt_713 rfl (iX4_isThere hq) rfl ?_
      rcases xite h with ⟨hc, h⟩ | ⟨hc, h⟩
      · refine x_if_eq_t (tgt := 24) (pc := 15) B dX4_there_15 (by decide) hc ?_
        refine x_iconst (pc := 24) B dX4_there_24 xk_iconst_0 ?_
        refine x_ior (pc := 25) B dX4_there_25 ?_
        refine x_istore_n (L1 := [(1, .int (i1 ||| (0 : Int32))), (0, .ref a0), (2, .int i2)]) (pc := 26) B dX4_there_26 rfl (by decide) rfl ?_
        refine x_iinc (L1 := [(2, .int (i2 + (1 : Int32))), (1, .int (i1 ||| (0 : Int32))), (0, .ref a0)]) (pc := 27) B 2 dX4_there_27 rfl (congrArg _ xk_iconst_1) (by decide) rfl ?_
        refine x_goto (tgt := 4) (pc := 30) B dX4_there_30 (by decide) ?_
        refine x_sub (L1 := [(0, .ref a0), (1, .int (i1 ||| (0 : Int32))), (2, .int (i2 + (1 : Int32)))]) [2, 1, 0] rfl ?_
        exact ih a0 (i1 ||| (0 : Int32)) (i2 + (1 : Int32)) q1.2 h
      · refine x_if_eq_f (pc := 15) B 24 dX4_there_15 (by decide) hc ?_
        refine x_iconst (pc := 18) B dX4_there_18 xk_iconst_1 ?_
        refine x_iload_n (pc := 19) B 2 dX4_there_19 rfl rfl ?_
        refine x_ishl (pc := 20) B dX4_there_20 ?_
        refine x_goto (tgt := 25) (pc := 21) B dX4_there_21 (by decide) ?_
        refine x_ior (pc := 25) B dX4_there_25 ?_
        refine x_istore_n (L1 := [(1, .int (i1 ||| ((1 : Int32) <<< (i2 &&& 31)))), (0, .ref a0), (2, .int i2)]) (pc := 26) B dX4_there_26 rfl (by decide) rfl ?_
        refine x_iinc (L1 := [(2, .int (i2 + (1 : Int32))), (1, .int (i1 ||| ((1 : Int32) <<< (i2 &&& 31)))), (0, .ref a0)]) (pc := 27) B 2 dX4_there_27 rfl (congrArg _ xk_iconst_1) (by decide) rfl ?_
        refine x_goto (tgt := 4) (pc := 30) B dX4_there_30 (by decide) ?_
        refine x_sub (L1 := [(0, .ref a0), (1, .int (i1 ||| ((1 : Int32) <<< (i2 &&& 31)))), (2, .int (i2 + (1 : Int32)))]) [2, 1, 0] rfl ?_
        exact ih a0 (i1 ||| ((1 : Int32) <<< (i2 &&& 31))) (i2 + (1 : Int32)) q1.2 h
def fX4_there (a0 : Nat) (w : XW) : Option (Int32 × XW) := if xis w a0 4 = true then
  fX4_there_4 1000 a0 (0 : Int32) (0 : Int32) w
  else none
theorem iX4_there {a0 : Nat} {w : XW} {R9 : (Int32 × XW)} (h : fX4_there a0 w = some R9) : xis w a0 4 = true := by
  unfold fX4_there at h
  rcases xite h with ⟨hc, h⟩ | ⟨hc, h⟩
  · exact hc
  · exact absurd h (by simp)
theorem np_X4_there : (parseMethodDescriptor yX4_there.desc).map (fun d => d.parameters.length) = some 0 := by decide +kernel
theorem hy_X4_there : yX4_there.cls ≠ "java/lang/invoke/MethodHandle" ∧ yX4_there.cls ≠ "java/lang/invoke/VarHandle" := ⟨by decide +kernel, by decide +kernel⟩
set_option maxRecDepth 20000 in
theorem eX4_there {cx : CX} {a0 : Nat} {w : XW} {R9 : (Int32 × XW)} (h : fX4_there a0 w = some R9) : Ct yX4_there cX4_there 3 (some .int) 1 21 cx [.ref a0] w (some (.int R9.1)) R9.2 := by
  refine Ct_of (by decide +kernel) (Nat.le_of_ble_eq_true rfl) (fun K B hR => ?_)
  rw [fX4_there] at h
  show Wx K cx 3 w.length 0 [(0, .ref a0)] [] w
  rcases xite h with ⟨hc, h⟩ | ⟨hc, h⟩
  · skip
    refine x_iconst (pc := 0) B dX4_there_0 xk_iconst_0 ?_
    refine x_istore_n (L1 := [(1, .int (0 : Int32)), (0, .ref a0)]) (pc := 1) B dX4_there_1 rfl (by decide) rfl ?_
    refine x_iconst (pc := 2) B dX4_there_2 xk_iconst_0 ?_
    refine x_istore_n (L1 := [(2, .int (0 : Int32)), (1, .int (0 : Int32)), (0, .ref a0)]) (pc := 3) B dX4_there_3 rfl (by decide) rfl ?_
    refine x_sub (L1 := [(0, .ref a0), (1, .int (0 : Int32)), (2, .int (0 : Int32))]) [2, 1, 0] rfl ?_
    exact pX4_there_4 B hR 1000 a0 (0 : Int32) (0 : Int32) w h
  · exact absurd h (by simp)
def fX4_possible_51 (k95 : Nat → Int32 → Int32 → Int32 → Int32 → Int32 → XW → Option (Int32 × XW)) : Nat → Nat → Int32 → Int32 → Int32 → Int32 → Int32 → Int32 → XW → Option (Int32 × XW)
  | 0, _, _, _, _, _, _, _, _ => none
  | g + 1, a0, i1, i2, i3, i4, i5, i6, w =>
    if (3 : Int32) ≤ i6 then
      k95 a0 i1 i2 i3 i4 i5 w
    else
    if i5 = (0 : Int32) then
      fX4_possible_51 k95 g a0 i1 i2 i3 i4 (0 : Int32) (i6 + (1 : Int32)) w
    else
    (xgR w a0 4 11).bind fun v7 =>
    (xaI w v7 i6).bind fun v8 =>
    if v8 = (0 : Int32) then
      fX4_possible_51 k95 g a0 i1 i2 i3 i4 (1 : Int32) (i6 + (1 : Int32)) w
    else
    if ((i2 >>> (i6 &&& 31)) &&& (1 : Int32)) = (1 : Int32) then
      fX4_possible_51 k95 g a0 i1 i2 i3 i4 (1 : Int32) (i6 + (1 : Int32)) w
    else
    fX4_possible_51 k95 g a0 i1 i2 i3 i4 (0 : Int32) (i6 + (1 : Int32)) w
set_option maxRecDepth 20000 in
theorem pX4_possible_51 {K : KX} {cx : CX} {nn : Nat} {R9 : Int32 × XW} (B : XB K cx RX4 cX4_possible 7 nn 3 72) (hR : XR K cx nn (some .int) (some (.int R9.1)) R9.2) {k95 : Nat → Int32 → Int32 → Int32 → Int32 → Int32 → XW → Option (Int32 × XW)} (hk95 : ∀ (a0 : Nat) (i1 : Int32) (i2 : Int32) (i3 : Int32) (i4 : Int32) (i5 : Int32) (w : XW), k95 a0 i1 i2 i3 i4 i5 w = some R9 → Wx K cx 7 nn 95 [(0, .ref a0), (1, .int i1), (2, .int i2), (3, .int i3), (4, .int i4), (5, .int i5)] [] w) : ∀ (g : Nat) (a0 : Nat) (i1 : Int32) (i2 : Int32) (i3 : Int32) (i4 : Int32) (i5 : Int32) (i6 : Int32) (w : XW), fX4_possible_51 k95 g a0 i1 i2 i3 i4 i5 i6 w = some R9 → Wx K cx 7 nn 51 [(0, .ref a0), (1, .int i1), (2, .int i2), (3, .int i3), (4, .int i4), (5, .int i5), (6, .int i6)] [] w := by
  intro g
  induction g with
  | zero =>
    intro a0 i1 i2 i3 i4 i5 i6 w h
    exact absurd (show (none : Option (Int32 × XW)) = some R9 from h) (by simp)
  | succ g ih =>
    intro a0 i1 i2 i3 i4 i5 i6 w h
    rw [fX4_possible_51] at h
    refine x_iload (pc := 51) B 6 dX4_possible_51 rfl ?_
    refine x_iconst (pc := 53) B dX4_possible_53 xk_iconst_3 ?_
    rcases xite h with ⟨hc, h⟩ | ⟨hc, h⟩
    · refine x_icmp_ge_t (tgt := 95) (pc := 54) B dX4_possible_54 (by decide) hc ?_
      refine x_sub (L1 := [(0, .ref a0), (1, .int i1), (2, .int i2), (3, .int i3), (4, .int i4), (5, .int i5)]) [0, 1, 2, 3, 4, 5] rfl ?_
      exact hk95 a0 i1 i2 i3 i4 i5 w h
    · refine x_icmp_ge_f (pc := 54) B 95 dX4_possible_54 (by decide) hc ?_
      refine x_iload (pc := 57) B 5 dX4_possible_57 rfl ?_
      rcases xite h with ⟨hc, h⟩ | ⟨hc, h⟩
      · refine x_if_eq_t (tgt := 86) (pc := 59) B dX4_possible_59 (by decide) hc ?_
        refine x_iconst (pc := 86) B dX4_possible_86 xk_iconst_0 ?_
        refine x_istore (L1 := [(5, .int (0 : Int32)), (0, .ref a0), (1, .int i1), (2, .int i2), (3, .int i3), (4, .int i4), (6, .int i6)]) (pc := 87) B dX4_possible_87 (by decide) rfl ?_
        refine x_iinc (L1 := [(6, .int (i6 + (1 : Int32))), (5, .int (0 : Int32)), (0, .ref a0), (1, .int i1), (2, .int i2), (3, .int i3), (4, .int i4)]) (pc := 89) B 6 dX4_possible_89 rfl (congrArg _ xk_iconst_1) (by decide) rfl ?_
        refine x_goto (tgt := 51) (pc := 92) B dX4_possible_92 (by decide) ?_
        refine x_sub (L1 := [(0, .ref a0), (1, .int i1), (2, .int i2), (3, .int i3), (4, .int i4), (5, .int (0 : Int32)), (6, .int (i6 + (1 : Int32)))]) [2, 3, 4, 5, 6, 1, 0] rfl ?_
        exact ih a0 i1 i2 i3 i4 (0 : Int32) (i6 + (1 : Int32)) w h
      · refine x_if_eq_f (pc := 59) B 86 dX4_possible_59 (by decide) hc ?_
        refine x_aload_n (pc := 62) B 0 dX4_possible_62 rfl rfl ?_
        obtain ⟨v7, hv, h⟩ := xbind h
        refine x_getR (k0 := 11) (pc := 63) B dX4_possible_63 rfl xi_4 (by decide) ⟨rfl, rfl, rfl⟩ xt_613 hv ?_
        refine x_iload (pc := 66) B 6 dX4_possible_66 rfl ?_
        obtain ⟨v8, hv, h⟩ := xbind h
        refine x_iald (pc := 68) B dX4_possible_68 hv ?_
        rcases xite h with ⟨hc, h⟩ | ⟨hc, h⟩
        · refine x_if_eq_t (tgt := 82) (pc := 69) B dX4_possible_69 (by decide) hc ?_
          refine x_iconst (pc := 82) B dX4_possible_82 xk_iconst_1 ?_
          refine x_goto (tgt := 87) (pc := 83) B dX4_possible_83 (by decide) ?_
          refine x_istore (L1 := [(5, .int (1 : Int32)), (0, .ref a0), (1, .int i1), (2, .int i2), (3, .int i3), (4, .int i4), (6, .int i6)]) (pc := 87) B dX4_possible_87 (by decide) rfl ?_
          refine x_iinc (L1 := [(6, .int (i6 + (1 : Int32))), (5, .int (1 : Int32)), (0, .ref a0), (1, .int i1), (2, .int i2), (3, .int i3), (4, .int i4)]) (pc := 89) B 6 dX4_possible_89 rfl (congrArg _ xk_iconst_1) (by decide) rfl ?_
          refine x_goto (tgt := 51) (pc := 92) B dX4_possible_92 (by decide) ?_
          refine x_sub (L1 := [(0, .ref a0), (1, .int i1), (2, .int i2), (3, .int i3), (4, .int i4), (5, .int (1 : Int32)), (6, .int (i6 + (1 : Int32)))]) [2, 3, 4, 5, 6, 1, 0] rfl ?_
          exact ih a0 i1 i2 i3 i4 (1 : Int32) (i6 + (1 : Int32)) w h
        · refine x_if_eq_f (pc := 69) B 82 dX4_possible_69 (by decide) hc ?_
          refine x_iload_n (pc := 72) B 2 dX4_possible_72 rfl rfl ?_
          refine x_iload (pc := 73) B 6 dX4_possible_73 rfl ?_
          refine x_ishr (pc := 75) B dX4_possible_75 ?_
          refine x_iconst (pc := 76) B dX4_possible_76 xk_iconst_1 ?_
          refine x_iand (pc := 77) B dX4_possible_77 ?_
          refine x_iconst (pc := 78) B dX4_possible_78 xk_iconst_1 ?_
          rcases xite h with ⟨hc, h⟩ | ⟨hc, h⟩
          · refine x_icmp_ne_f (pc := 79) B 86 dX4_possible_79 (by decide) hc ?_
            refine x_iconst (pc := 82) B dX4_possible_82 xk_iconst_1 ?_
            refine x_goto (tgt := 87) (pc := 83) B dX4_possible_83 (by decide) ?_
            refine x_istore (L1 := [(5, .int (1 : Int32)), (0, .ref a0), (1, .int i1), (2, .int i2), (3, .int i3), (4, .int i4), (6, .int i6)]) (pc := 87) B dX4_possible_87 (by decide) rfl ?_
            refine x_iinc (L1 := [(6, .int (i6 + (1 : Int32))), (5, .int (1 : Int32)), (0, .ref a0), (1, .int i1), (2, .int i2), (3, .int i3), (4, .int i4)]) (pc := 89) B 6 dX4_possible_89 rfl (congrArg _ xk_iconst_1) (by decide) rfl ?_
            refine x_goto (tgt := 51) (pc := 92) B dX4_possible_92 (by decide) ?_
            refine x_sub (L1 := [(0, .ref a0), (1, .int i1), (2, .int i2), (3, .int i3), (4, .int i4), (5, .int (1 : Int32)), (6, .int (i6 + (1 : Int32)))]) [2, 3, 4, 5, 6, 1, 0] rfl ?_
            exact ih a0 i1 i2 i3 i4 (1 : Int32) (i6 + (1 : Int32)) w h
          · refine x_icmp_ne_t (tgt := 86) (pc := 79) B dX4_possible_79 (by decide) hc ?_
            refine x_iconst (pc := 86) B dX4_possible_86 xk_iconst_0 ?_
            refine x_istore (L1 := [(5, .int (0 : Int32)), (0, .ref a0), (1, .int i1), (2, .int i2), (3, .int i3), (4, .int i4), (6, .int i6)]) (pc := 87) B dX4_possible_87 (by decide) rfl ?_
            refine x_iinc (L1 := [(6, .int (i6 + (1 : Int32))), (5, .int (0 : Int32)), (0, .ref a0), (1, .int i1), (2, .int i2), (3, .int i3), (4, .int i4)]) (pc := 89) B 6 dX4_possible_89 rfl (congrArg _ xk_iconst_1) (by decide) rfl ?_
            refine x_goto (tgt := 51) (pc := 92) B dX4_possible_92 (by decide) ?_
            refine x_sub (L1 := [(0, .ref a0), (1, .int i1), (2, .int i2), (3, .int i3), (4, .int i4), (5, .int (0 : Int32)), (6, .int (i6 + (1 : Int32)))]) [2, 3, 4, 5, 6, 1, 0] rfl ?_
            exact ih a0 i1 i2 i3 i4 (0 : Int32) (i6 + (1 : Int32)) w h
def fX4_possible_5 : Nat → Nat → Int32 → Int32 → Int32 → Int32 → XW → Option (Int32 × XW)
  | 0, _, _, _, _, _, _ => none
  | g + 1, a0, i1, i2, i3, i4, w =>
    if (125 : Int32) ≤ i4 then
      some (i3, w)
    else
    (xgR w a0 4 11).bind fun v1 =>
    (xsI w v1 (0 : Int32) (i4 - i4 / (5 : Int32) * (5 : Int32))).bind fun w2 =>
    (xgR w2 a0 4 11).bind fun v3 =>
    (xsI w2 v3 (1 : Int32) ((i4 / (5 : Int32)) - (i4 / (5 : Int32)) / (5 : Int32) * (5 : Int32))).bind fun w4 =>
    (xgR w4 a0 4 11).bind fun v5 =>
    (xsI w4 v5 (2 : Int32) (i4 / (25 : Int32))).bind fun w6 =>
    fX4_possible_51 (fun a0_9 i1_9 i2_9 i3_9 i4_9 i5_9 w_9 =>
      if i5_9 = (0 : Int32) then
        fX4_possible_5 g a0_9 i1_9 i2_9 (i3_9 ||| (0 : Int32)) (i4_9 + (1 : Int32)) w_9
      else
      (fX4_bestSet a0_9 i1_9 w_9).bind fun q10 =>
      fX4_possible_5 g a0_9 i1_9 i2_9 (i3_9 ||| q10.1) (i4_9 + (1 : Int32)) q10.2) 1000 a0 i1 i2 i3 i4 (1 : Int32) (0 : Int32) w6
set_option maxRecDepth 20000 in
theorem pX4_possible_5 {K : KX} {cx : CX} {nn : Nat} {R9 : Int32 × XW} (B : XB K cx RX4 cX4_possible 7 nn 3 72) (hR : XR K cx nn (some .int) (some (.int R9.1)) R9.2) : ∀ (g : Nat) (a0 : Nat) (i1 : Int32) (i2 : Int32) (i3 : Int32) (i4 : Int32) (w : XW), fX4_possible_5 g a0 i1 i2 i3 i4 w = some R9 → Wx K cx 7 nn 5 [(0, .ref a0), (1, .int i1), (2, .int i2), (3, .int i3), (4, .int i4)] [] w := by
  intro g
  induction g with
  | zero =>
    intro a0 i1 i2 i3 i4 w h
    exact absurd (show (none : Option (Int32 × XW)) = some R9 from h) (by simp)
  | succ g ih =>
    intro a0 i1 i2 i3 i4 w h
    rw [fX4_possible_5] at h
    refine x_iload (pc := 5) B 4 dX4_possible_5 rfl ?_
    refine x_bipush (pc := 7) B dX4_possible_7 xk_bipush_125 ?_
    rcases xite h with ⟨hc, h⟩ | ⟨hc, h⟩
    · refine x_icmp_ge_t (tgt := 118) (pc := 9) B dX4_possible_9 (by decide) hc ?_
      refine x_iload_n (pc := 118) B 3 dX4_possible_118 rfl rfl ?_
      exact x_iret (pc := 119) B hR dX4_possible_119 (xzI _) h
    · refine x_icmp_ge_f (pc := 9) B 118 dX4_possible_9 (by decide) hc ?_
      refine x_aload_n (pc := 12) B 0 dX4_possible_12 rfl rfl ?_
      obtain ⟨v1, hv, h⟩ := xbind h
      refine x_getR (k0 := 11) (pc := 13) B dX4_possible_13 rfl xi_4 (by decide) ⟨rfl, rfl, rfl⟩ xt_613 hv ?_
      refine x_iconst (pc := 16) B dX4_possible_16 xk_iconst_0 ?_
      refine x_iload (pc := 17) B 4 dX4_possible_17 rfl ?_
      refine x_iconst (pc := 19) B dX4_possible_19 xk_iconst_5 ?_
      refine x_irem (pc := 20) B dX4_possible_20 (by decide) ?_
      obtain ⟨w2, hv, h⟩ := xbind h
      refine x_iast (pc := 21) B dX4_possible_21 hv ?_
      refine x_aload_n (pc := 22) B 0 dX4_possible_22 rfl rfl ?_
      obtain ⟨v3, hv, h⟩ := xbind h
      refine x_getR (k0 := 11) (pc := 23) B dX4_possible_23 rfl xi_4 (by decide) ⟨rfl, rfl, rfl⟩ xt_613 hv ?_
      refine x_iconst (pc := 26) B dX4_possible_26 xk_iconst_1 ?_
      refine x_iload (pc := 27) B 4 dX4_possible_27 rfl ?_
      refine x_iconst (pc := 29) B dX4_possible_29 xk_iconst_5 ?_
      refine x_idiv (pc := 30) B dX4_possible_30 (by decide) ?_
      refine x_iconst (pc := 31) B dX4_possible_31 xk_iconst_5 ?_
      refine x_irem (pc := 32) B dX4_possible_32 (by decide) ?_
      obtain ⟨w4, hv, h⟩ := xbind h
      refine x_iast (pc := 33) B dX4_possible_33 hv ?_
      refine x_aload_n (pc := 34) B 0 dX4_possible_34 rfl rfl ?_
      obtain ⟨v5, hv, h⟩ := xbind h
      refine x_getR (k0 := 11) (pc := 35) B dX4_possible_35 rfl xi_4 (by decide) ⟨rfl, rfl, rfl⟩ xt_613 hv ?_
      refine x_iconst (pc := 38) B dX4_possible_38 xk_iconst_2 ?_
      refine x_iload (pc := 39) B 4 dX4_possible_39 rfl ?_
      refine x_bipush (pc := 41) B dX4_possible_41 xk_bipush_25 ?_
      refine x_idiv (pc := 43) B dX4_possible_43 (by decide) ?_
      obtain ⟨w6, hv, h⟩ := xbind h
      refine x_iast (pc := 44) B dX4_possible_44 hv ?_
      refine x_iconst (pc := 45) B dX4_possible_45 xk_iconst_1 ?_
      refine x_istore (L1 := [(5, .int (1 : Int32)), (0, .ref a0), (1, .int i1), (2, .int i2), (3, .int i3), (4, .int i4)]) (pc := 46) B dX4_possible_46 (by decide) rfl ?_
      refine x_iconst (pc := 48) B dX4_possible_48 xk_iconst_0 ?_
      refine x_istore (L1 := [(6, .int (0 : Int32)), (5, .int (1 : Int32)), (0, .ref a0), (1, .int i1), (2, .int i2), (3, .int i3), (4, .int i4)]) (pc := 49) B dX4_possible_49 (by decide) rfl ?_
      refine x_sub (L1 := [(0, .ref a0), (1, .int i1), (2, .int i2), (3, .int i3), (4, .int i4), (5, .int (1 : Int32)), (6, .int (0 : Int32))]) [2, 3, 4, 5, 6, 1, 0] rfl ?_
      refine pX4_possible_51 B hR ?_ 1000 a0 i1 i2 i3 i4 (1 : Int32) (0 : Int32) w6 h
      · intro a0_9 i1_9 i2_9 i3_9 i4_9 i5_9 w_9 h
        refine x_iload_n (pc := 95) B 3 dX4_possible_95 rfl rfl ?_
        refine x_iload (pc := 96) B 5 dX4_possible_96 rfl ?_
        rcases xite h with ⟨hc, h⟩ | ⟨hc, h⟩
        · refine x_if_eq_t (tgt := 109) (pc := 98) B dX4_possible_98 (by decide) hc ?_
          refine x_iconst (pc := 109) B dX4_possible_109 xk_iconst_0 ?_
          refine x_ior (pc := 110) B dX4_possible_110 ?_
          refine x_istore_n (L1 := [(3, .int (i3_9 ||| (0 : Int32))), (0, .ref a0_9), (1, .int i1_9), (2, .int i2_9), (4, .int i4_9), (5, .int i5_9)]) (pc := 111) B dX4_possible_111 rfl (by decide) rfl ?_
          refine x_iinc (L1 := [(4, .int (i4_9 + (1 : Int32))), (3, .int (i3_9 ||| (0 : Int32))), (0, .ref a0_9), (1, .int i1_9), (2, .int i2_9), (5, .int i5_9)]) (pc := 112) B 4 dX4_possible_112 rfl (congrArg _ xk_iconst_1) (by decide) rfl ?_
          refine x_goto (tgt := 5) (pc := 115) B dX4_possible_115 (by decide) ?_
          refine x_sub (L1 := [(0, .ref a0_9), (1, .int i1_9), (2, .int i2_9), (3, .int (i3_9 ||| (0 : Int32))), (4, .int (i4_9 + (1 : Int32)))]) [2, 3, 4, 1, 0] rfl ?_
          exact ih a0_9 i1_9 i2_9 (i3_9 ||| (0 : Int32)) (i4_9 + (1 : Int32)) w_9 h
        · refine x_if_eq_f (pc := 98) B 109 dX4_possible_98 (by decide) hc ?_
          refine x_aload_n (pc := 101) B 0 dX4_possible_101 rfl rfl ?_
          refine x_iload_n (pc := 102) B 1 dX4_possible_102 rfl rfl ?_
          obtain ⟨q10, hq, h⟩ := xbind h
          refine x_callV1 (st := [.int i3_9]) (pc := 103) B dX4_possible_103 (eX4_bestSet hq) xt_748 xt_58 np_X4_bestSet hy_X4_bestSet (Nat.le_of_ble_eq_true rfl) (Nat.le_of_ble_eq_true rfl) (Nat.le_of_ble_eq_true rfl) xt_747 xt_31 xt_745 rfl (iX4_bestSet hq) rfl ?_
          refine x_goto (tgt := 110) (pc := 106) B dX4_possible_106 (by decide) ?_
          refine x_ior (pc := 110) B dX4_possible_110 ?_
          refine x_istore_n (L1 := [(3, .int (i3_9 ||| q10.1)), (0, .ref a0_9), (1, .int i1_9), (2, .int i2_9), (4, .int i4_9), (5, .int i5_9)]) (pc := 111) B dX4_possible_111 rfl (by decide) rfl ?_
          refine x_iinc (L1 := [(4, .int (i4_9 + (1 : Int32))), (3, .int (i3_9 ||| q10.1)), (0, .ref a0_9), (1, .int i1_9), (2, .int i2_9), (5, .int i5_9)]) (pc := 112) B 4 dX4_possible_112 rfl (congrArg _ xk_iconst_1) (by decide) rfl ?_
          refine x_goto (tgt := 5) (pc := 115) B dX4_possible_115 (by decide) ?_
          refine x_sub (L1 := [(0, .ref a0_9), (1, .int i1_9), (2, .int i2_9), (3, .int (i3_9 ||| q10.1)), (4, .int (i4_9 + (1 : Int32)))]) [2, 3, 4, 1, 0] rfl ?_
          exact ih a0_9 i1_9 i2_9 (i3_9 ||| q10.1) (i4_9 + (1 : Int32)) q10.2 h
def fX4_possible (a0 : Nat) (i1 : Int32) (i2 : Int32) (w : XW) : Option (Int32 × XW) := if xis w a0 4 = true then
  fX4_possible_5 1000 a0 i1 i2 (0 : Int32) (1 : Int32) w
  else none
theorem iX4_possible {a0 : Nat} {i1 : Int32} {i2 : Int32} {w : XW} {R9 : (Int32 × XW)} (h : fX4_possible a0 i1 i2 w = some R9) : xis w a0 4 = true := by
  unfold fX4_possible at h
  rcases xite h with ⟨hc, h⟩ | ⟨hc, h⟩
  · exact hc
  · exact absurd h (by simp)
theorem np_X4_possible : (parseMethodDescriptor yX4_possible.desc).map (fun d => d.parameters.length) = some 2 := by decide +kernel
theorem hy_X4_possible : yX4_possible.cls ≠ "java/lang/invoke/MethodHandle" ∧ yX4_possible.cls ≠ "java/lang/invoke/VarHandle" := ⟨by decide +kernel, by decide +kernel⟩
set_option maxRecDepth 20000 in
theorem eX4_possible {cx : CX} {a0 : Nat} {i1 : Int32} {i2 : Int32} {w : XW} {R9 : (Int32 × XW)} (h : fX4_possible a0 i1 i2 w = some R9) : Ct yX4_possible cX4_possible 7 (some .int) 3 72 cx [.ref a0, .int i1, .int i2] w (some (.int R9.1)) R9.2 := by
  refine Ct_of (by decide +kernel) (Nat.le_of_ble_eq_true rfl) (fun K B hR => ?_)
  rw [fX4_possible] at h
  show Wx K cx 7 w.length 0 [(0, .ref a0), (1, .int i1), (2, .int i2)] [] w
  rcases xite h with ⟨hc, h⟩ | ⟨hc, h⟩
  · skip
    refine x_iconst (pc := 0) B dX4_possible_0 xk_iconst_0 ?_
    refine x_istore_n (L1 := [(3, .int (0 : Int32)), (0, .ref a0), (1, .int i1), (2, .int i2)]) (pc := 1) B dX4_possible_1 rfl (by decide) rfl ?_
    refine x_iconst (pc := 2) B dX4_possible_2 xk_iconst_1 ?_
    refine x_istore (L1 := [(4, .int (1 : Int32)), (3, .int (0 : Int32)), (0, .ref a0), (1, .int i1), (2, .int i2)]) (pc := 3) B dX4_possible_3 (by decide) rfl ?_
    refine x_sub (L1 := [(0, .ref a0), (1, .int i1), (2, .int i2), (3, .int (0 : Int32)), (4, .int (1 : Int32))]) [2, 3, 4, 1, 0] rfl ?_
    exact pX4_possible_5 B hR 1000 a0 i1 i2 (0 : Int32) (1 : Int32) w h
  · exact absurd h (by simp)
def fX4_isBeyond_6 : Nat → Nat → Int32 → Int32 → Int32 → Int32 → Int32 → Int32 → XW → Option (Int32 × XW)
  | 0, _, _, _, _, _, _, _, _ => none
  | g + 1, a0, i1, i2, i3, i4, i5, i6, w =>
    if (3 : Int32) ≤ i6 then
      if vp_nar .boolean i5 = i5 then some (i5, w) else none
    else
    (xgR w a0 4 0).bind fun v1 =>
    (fX4_place (0 : Int32) i1 i2 i6 w).bind fun q2 =>
    (xaI q2.2 v1 q2.1).bind fun v3 =>
    if i4 = (0 : Int32) then
      (fX4_payoffOf a0 i1 q2.2).bind fun q4 =>
      if v3 ≤ q4.1 then
        if i5 = (0 : Int32) then
          fX4_isBeyond_6 g a0 i1 i2 i3 i4 (0 : Int32) (i6 + (1 : Int32)) q4.2
        else
        if ((i3 >>> (i6 &&& 31)) &&& (1 : Int32)) = (0 : Int32) then
          fX4_isBeyond_6 g a0 i1 i2 i3 i4 (1 : Int32) (i6 + (1 : Int32)) q4.2
        else
        fX4_isBeyond_6 g a0 i1 i2 i3 i4 (0 : Int32) (i6 + (1 : Int32)) q4.2
      else
      if i5 = (0 : Int32) then
        fX4_isBeyond_6 g a0 i1 i2 i3 i4 (0 : Int32) (i6 + (1 : Int32)) q4.2
      else
      if ((i3 >>> (i6 &&& 31)) &&& (1 : Int32)) = (0 : Int32) then
        fX4_isBeyond_6 g a0 i1 i2 i3 i4 (1 : Int32) (i6 + (1 : Int32)) q4.2
      else
      fX4_isBeyond_6 g a0 i1 i2 i3 i4 (1 : Int32) (i6 + (1 : Int32)) q4.2
    else
    (fX4_payoffOf a0 i1 q2.2).bind fun q5 =>
    if q5.1 ≤ v3 then
      if i5 = (0 : Int32) then
        fX4_isBeyond_6 g a0 i1 i2 i3 i4 (0 : Int32) (i6 + (1 : Int32)) q5.2
      else
      if ((i3 >>> (i6 &&& 31)) &&& (1 : Int32)) = (0 : Int32) then
        fX4_isBeyond_6 g a0 i1 i2 i3 i4 (1 : Int32) (i6 + (1 : Int32)) q5.2
      else
      fX4_isBeyond_6 g a0 i1 i2 i3 i4 (0 : Int32) (i6 + (1 : Int32)) q5.2
    else
    if i5 = (0 : Int32) then
      fX4_isBeyond_6 g a0 i1 i2 i3 i4 (0 : Int32) (i6 + (1 : Int32)) q5.2
    else
    if ((i3 >>> (i6 &&& 31)) &&& (1 : Int32)) = (0 : Int32) then
      fX4_isBeyond_6 g a0 i1 i2 i3 i4 (1 : Int32) (i6 + (1 : Int32)) q5.2
    else
    fX4_isBeyond_6 g a0 i1 i2 i3 i4 (1 : Int32) (i6 + (1 : Int32)) q5.2
set_option maxRecDepth 20000 in
theorem pX4_isBeyond_6 {K : KX} {cx : CX} {nn : Nat} {R9 : Int32 × XW} (B : XB K cx RX4 cX4_isBeyond 9 nn 3 66) (hR : XR K cx nn (some .boolean) (some (.int R9.1)) R9.2) : ∀ (g : Nat) (a0 : Nat) (i1 : Int32) (i2 : Int32) (i3 : Int32) (i4 : Int32) (i5 : Int32) (i6 : Int32) (w : XW), fX4_isBeyond_6 g a0 i1 i2 i3 i4 i5 i6 w = some R9 → Wx K cx 9 nn 6 [(0, .ref a0), (1, .int i1), (2, .int i2), (3, .int i3), (4, .int i4), (5, .int i5), (6, .int i6)] [] w := by
  intro g
  induction g with
  | zero =>
    intro a0 i1 i2 i3 i4 i5 i6 w h
    exact absurd (show (none : Option (Int32 × XW)) = some R9 from h) (by simp)
  | succ g ih =>
    intro a0 i1 i2 i3 i4 i5 i6 w h
    rw [fX4_isBeyond_6] at h
    refine x_iload (pc := 6) B 6 dX4_isBeyond_6 rfl ?_
    refine x_iconst (pc := 8) B dX4_isBeyond_8 xk_iconst_3 ?_
    rcases xite h with ⟨hc, h⟩ | ⟨hc, h⟩
    · refine x_icmp_ge_t (tgt := 99) (pc := 9) B dX4_isBeyond_9 (by decide) hc ?_
      refine x_iload (pc := 99) B 5 dX4_isBeyond_99 rfl ?_
      rcases xite h with ⟨hc, h⟩ | ⟨hc, h⟩
      · exact x_iret (pc := 101) B hR dX4_isBeyond_101 (xnar (Or.inl rfl) hc) h
      · exact absurd h (by simp)
    · refine x_icmp_ge_f (pc := 9) B 99 dX4_isBeyond_9 (by decide) hc ?_
      refine x_aload_n (pc := 12) B 0 dX4_isBeyond_12 rfl rfl ?_
      obtain ⟨v1, hv, h⟩ := xbind h
      refine x_getR (k0 := 0) (pc := 13) B dX4_isBeyond_13 rfl xi_4 (by decide) ⟨rfl, rfl, rfl⟩ xt_602 hv ?_
      refine x_iconst (pc := 16) B dX4_isBeyond_16 xk_iconst_0 ?_
      refine x_iload_n (pc := 17) B 1 dX4_isBeyond_17 rfl rfl ?_
      refine x_iload_n (pc := 18) B 2 dX4_isBeyond_18 rfl rfl ?_
      refine x_iload (pc := 19) B 6 dX4_isBeyond_19 rfl ?_
      obtain ⟨q2, hq, h⟩ := xbind h
      refine x_callS1 (st := [.ref v1]) (pc := 21) B dX4_isBeyond_21 (eX4_place hq) xt_676 xt_58 np_X4_place hy_X4_place (Nat.le_of_ble_eq_true rfl) (Nat.le_of_ble_eq_true rfl) (Nat.le_of_ble_eq_true rfl) xt_675 xt_674 rfl ?_
      obtain ⟨v3, hv, h⟩ := xbind h
      refine x_iald (pc := 24) B dX4_isBeyond_24 hv ?_
      refine x_istore (L1 := [(7, .int v3), (0, .ref a0), (1, .int i1), (2, .int i2), (3, .int i3), (4, .int i4), (5, .int i5), (6, .int i6)]) (pc := 25) B dX4_isBeyond_25 (by decide) rfl ?_
      refine x_iload (pc := 27) B 5 dX4_isBeyond_27 rfl ?_
      rcases xite h with ⟨hc, h⟩ | ⟨hc, h⟩
      · refine x_if_eq_t (tgt := 50) (pc := 29) B dX4_isBeyond_29 (by decide) hc ?_
        refine x_aload_n (pc := 50) B 1 dX4_isBeyond_50 rfl rfl ?_
        refine x_iload_n (pc := 51) B 2 dX4_isBeyond_51 rfl rfl ?_
        obtain ⟨q4, hq, h⟩ := xbind h
        refine x_callV1 (st := []) (pc := 52) B dX4_isBeyond_52 (eX4_payoffOf hq) xt_728 xt_58 np_X4_payoffOf hy_X4_payoffOf (Nat.le_of_ble_eq_true rfl) (Nat.le_of_ble_eq_true rfl) (Nat.le_of_ble_eq_true rfl) xt_727 xt_26 xt_725 rfl (iX4_payoffOf hq) rfl ?_
        refine x_iload (pc := 55) B 0 dX4_isBeyond_55 rfl ?_
        rcases xite h with ⟨hc, h⟩ | ⟨hc, h⟩
        · refine x_icmp_ge_t (tgt := 64) (pc := 57) B dX4_isBeyond_57 (by decide) hc ?_
          refine x_iconst (pc := 64) B dX4_isBeyond_64 xk_iconst_0 ?_
          refine x_istore (L1 := [(8, .int (0 : Int32)), (7, .int v3), (0, .ref a0), (1, .int i1), (2, .int i2), (3, .int i3), (4, .int i4), (5, .int i5), (6, .int i6)]) (pc := 65) B dX4_isBeyond_65 (by decide) rfl ?_
          refine x_iload (pc := 67) B 7 dX4_isBeyond_67 rfl ?_
          rcases xite h with ⟨hc, h⟩ | ⟨hc, h⟩
          · refine x_if_eq_t (tgt := 90) (pc := 69) B dX4_isBeyond_69 (by decide) hc ?_
            refine x_iconst (pc := 90) B dX4_isBeyond_90 xk_iconst_0 ?_
            refine x_istore (L1 := [(5, .int (0 : Int32)), (8, .int (0 : Int32)), (7, .int v3), (0, .ref a0), (1, .int i1), (2, .int i2), (3, .int i3), (4, .int i4), (6, .int i6)]) (pc := 91) B dX4_isBeyond_91 (by decide) rfl ?_
            refine x_iinc (L1 := [(6, .int (i6 + (1 : Int32))), (5, .int (0 : Int32)), (8, .int (0 : Int32)), (7, .int v3), (0, .ref a0), (1, .int i1), (2, .int i2), (3, .int i3), (4, .int i4)]) (pc := 93) B 8 dX4_isBeyond_93 rfl (congrArg _ xk_iconst_1) (by decide) rfl ?_
            refine x_goto (tgt := 6) (pc := 96) B dX4_isBeyond_96 (by decide) ?_
            refine x_sub (L1 := [(0, .ref a0), (1, .int i1), (2, .int i2), (3, .int i3), (4, .int i4), (5, .int (0 : Int32)), (6, .int (i6 + (1 : Int32)))]) [4, 5, 6, 7, 8, 1, 0] rfl ?_
            exact ih a0 i1 i2 i3 i4 (0 : Int32) (i6 + (1 : Int32)) q4.2 h
          · refine x_if_eq_f (pc := 69) B 90 dX4_isBeyond_69 (by decide) hc ?_
            refine x_iload_n (pc := 72) B 5 dX4_isBeyond_72 rfl rfl ?_
            refine x_iload (pc := 73) B 8 dX4_isBeyond_73 rfl ?_
            refine x_ishr (pc := 75) B dX4_isBeyond_75 ?_
            refine x_iconst (pc := 76) B dX4_isBeyond_76 xk_iconst_1 ?_
            refine x_iand (pc := 77) B dX4_isBeyond_77 ?_
            rcases xite h with ⟨hc, h⟩ | ⟨hc, h⟩
            · refine x_if_eq_t (tgt := 86) (pc := 78) B dX4_isBeyond_78 (by decide) hc ?_
              refine x_iconst (pc := 86) B dX4_isBeyond_86 xk_iconst_1 ?_
              refine x_goto (tgt := 91) (pc := 87) B dX4_isBeyond_87 (by decide) ?_
              refine x_istore (L1 := [(5, .int (1 : Int32)), (8, .int (0 : Int32)), (7, .int v3), (0, .ref a0), (1, .int i1), (2, .int i2), (3, .int i3), (4, .int i4), (6, .int i6)]) (pc := 91) B dX4_isBeyond_91 (by decide) rfl ?_
              refine x_iinc (L1 := [(6, .int (i6 + (1 : Int32))), (5, .int (1 : Int32)), (8, .int (0 : Int32)), (7, .int v3), (0, .ref a0), (1, .int i1), (2, .int i2), (3, .int i3), (4, .int i4)]) (pc := 93) B 8 dX4_isBeyond_93 rfl (congrArg _ xk_iconst_1) (by decide) rfl ?_
              refine x_goto (tgt := 6) (pc := 96) B dX4_isBeyond_96 (by decide) ?_
              refine x_sub (L1 := [(0, .ref a0), (1, .int i1), (2, .int i2), (3, .int i3), (4, .int i4), (5, .int (1 : Int32)), (6, .int (i6 + (1 : Int32)))]) [4, 5, 6, 7, 8, 1, 0] rfl ?_
              exact ih a0 i1 i2 i3 i4 (1 : Int32) (i6 + (1 : Int32)) q4.2 h
            · refine x_if_eq_f (pc := 78) B 86 dX4_isBeyond_78 (by decide) hc ?_
              refine x_iload (pc := 81) B 0 dX4_isBeyond_81 rfl ?_
              refine x_if_eq_t (tgt := 90) (pc := 83) B dX4_isBeyond_83 (by decide) (by decide) ?_
              refine x_iconst (pc := 90) B dX4_isBeyond_90 xk_iconst_0 ?_
              refine x_istore (L1 := [(5, .int (0 : Int32)), (8, .int (0 : Int32)), (7, .int v3), (0, .ref a0), (1, .int i1), (2, .int i2), (3, .int i3), (4, .int i4), (6, .int i6)]) (pc := 91) B dX4_isBeyond_91 (by decide) rfl ?_
              refine x_iinc (L1 := [(6, .int (i6 + (1 : Int32))), (5, .int (0 : Int32)), (8, .int (0 : Int32)), (7, .int v3), (0, .ref a0), (1, .int i1), (2, .int i2), (3, .int i3), (4, .int i4)]) (pc := 93) B 8 dX4_isBeyond_93 rfl (congrArg _ xk_iconst_1) (by decide) rfl ?_
              refine x_goto (tgt := 6) (pc := 96) B dX4_isBeyond_96 (by decide) ?_
              refine x_sub (L1 := [(0, .ref a0), (1, .int i1), (2, .int i2), (3, .int i3), (4, .int i4), (5, .int (0 : Int32)), (6, .int (i6 + (1 : Int32)))]) [4, 5, 6, 7, 8, 1, 0] rfl ?_
              exact ih a0 i1 i2 i3 i4 (0 : Int32) (i6 + (1 : Int32)) q4.2 h
        · refine x_icmp_ge_f (pc := 57) B 64 dX4_isBeyond_57 (by decide) hc ?_
          refine x_iconst (pc := 60) B dX4_isBeyond_60 xk_iconst_1 ?_
          refine x_goto (tgt := 65) (pc := 61) B dX4_isBeyond_61 (by decide) ?_
          refine x_istore (L1 := [(8, .int (1 : Int32)), (7, .int v3), (0, .ref a0), (1, .int i1), (2, .int i2), (3, .int i3), (4, .int i4), (5, .int i5), (6, .int i6)]) (pc := 65) B dX4_isBeyond_65 (by decide) rfl ?_
          refine x_iload (pc := 67) B 7 dX4_isBeyond_67 rfl ?_
          rcases xite h with ⟨hc, h⟩ | ⟨hc, h⟩
          · refine x_if_eq_t (tgt := 90) (pc := 69) B dX4_isBeyond_69 (by decide) hc ?_
            refine x_iconst (pc := 90) B dX4_isBeyond_90 xk_iconst_0 ?_
            refine x_istore (L1 := [(5, .int (0 : Int32)), (8, .int (1 : Int32)), (7, .int v3), (0, .ref a0), (1, .int i1), (2, .int i2), (3, .int i3), (4, .int i4), (6, .int i6)]) (pc := 91) B dX4_isBeyond_91 (by decide) rfl ?_
            refine x_iinc (L1 := [(6, .int (i6 + (1 : Int32))), (5, .int (0 : Int32)), (8, .int (1 : Int32)), (7, .int v3), (0, .ref a0), (1, .int i1), (2, .int i2), (3, .int i3), (4, .int i4)]) (pc := 93) B 8 dX4_isBeyond_93 rfl (congrArg _ xk_iconst_1) (by decide) rfl ?_
            refine x_goto (tgt := 6) (pc := 96) B dX4_isBeyond_96 (by decide) ?_
            refine x_sub (L1 := [(0, .ref a0), (1, .int i1), (2, .int i2), (3, .int i3), (4, .int i4), (5, .int (0 : Int32)), (6, .int (i6 + (1 : Int32)))]) [4, 5, 6, 7, 8, 1, 0] rfl ?_
            exact ih a0 i1 i2 i3 i4 (0 : Int32) (i6 + (1 : Int32)) q4.2 h
          · refine x_if_eq_f (pc := 69) B 90 dX4_isBeyond_69 (by decide) hc ?_
            refine x_iload_n (pc := 72) B 5 dX4_isBeyond_72 rfl rfl ?_
            refine x_iload (pc := 73) B 8 dX4_isBeyond_73 rfl ?_
            refine x_ishr (pc := 75) B dX4_isBeyond_75 ?_
            refine x_iconst (pc := 76) B dX4_isBeyond_76 xk_iconst_1 ?_
            refine x_iand (pc := 77) B dX4_isBeyond_77 ?_
            rcases xite h with ⟨hc, h⟩ | ⟨hc, h⟩
            · refine x_if_eq_t (tgt := 86) (pc := 78) B dX4_isBeyond_78 (by decide) hc ?_
              refine x_iconst (pc := 86) B dX4_isBeyond_86 xk_iconst_1 ?_
              refine x_goto (tgt := 91) (pc := 87) B dX4_isBeyond_87 (by decide) ?_
              refine x_istore (L1 := [(5, .int (1 : Int32)), (8, .int (1 : Int32)), (7, .int v3), (0, .ref a0), (1, .int i1), (2, .int i2), (3, .int i3), (4, .int i4), (6, .int i6)]) (pc := 91) B dX4_isBeyond_91 (by decide) rfl ?_
              refine x_iinc (L1 := [(6, .int (i6 + (1 : Int32))), (5, .int (1 : Int32)), (8, .int (1 : Int32)), (7, .int v3), (0, .ref a0), (1, .int i1), (2, .int i2), (3, .int i3), (4, .int i4)]) (pc := 93) B 8 dX4_isBeyond_93 rfl (congrArg _ xk_iconst_1) (by decide) rfl ?_
              refine x_goto (tgt := 6) (pc := 96) B dX4_isBeyond_96 (by decide) ?_
              refine x_sub (L1 := [(0, .ref a0), (1, .int i1), (2, .int i2), (3, .int i3), (4, .int i4), (5, .int (1 : Int32)), (6, .int (i6 + (1 : Int32)))]) [4, 5, 6, 7, 8, 1, 0] rfl ?_
              exact ih a0 i1 i2 i3 i4 (1 : Int32) (i6 + (1 : Int32)) q4.2 h
            · refine x_if_eq_f (pc := 78) B 86 dX4_isBeyond_78 (by decide) hc ?_
              refine x_iload (pc := 81) B 0 dX4_isBeyond_81 rfl ?_
              refine x_if_eq_f (pc := 83) B 90 dX4_isBeyond_83 (by decide) (by decide) ?_
              refine x_iconst (pc := 86) B dX4_isBeyond_86 xk_iconst_1 ?_
              refine x_goto (tgt := 91) (pc := 87) B dX4_isBeyond_87 (by decide) ?_
              refine x_istore (L1 := [(5, .int (1 : Int32)), (8, .int (1 : Int32)), (7, .int v3), (0, .ref a0), (1, .int i1), (2, .int i2), (3, .int i3), (4, .int i4), (6, .int i6)]) (pc := 91) B dX4_isBeyond_91 (by decide) rfl ?_
              refine x_iinc (L1 := [(6, .int (i6 + (1 : Int32))), (5, .int (1 : Int32)), (8, .int (1 : Int32)), (7, .int v3), (0, .ref a0), (1, .int i1), (2, .int i2), (3, .int i3), (4, .int i4)]) (pc := 93) B 8 dX4_isBeyond_93 rfl (congrArg _ xk_iconst_1) (by decide) rfl ?_
              refine x_goto (tgt := 6) (pc := 96) B dX4_isBeyond_96 (by decide) ?_
              refine x_sub (L1 := [(0, .ref a0), (1, .int i1), (2, .int i2), (3, .int i3), (4, .int i4), (5, .int (1 : Int32)), (6, .int (i6 + (1 : Int32)))]) [4, 5, 6, 7, 8, 1, 0] rfl ?_
              exact ih a0 i1 i2 i3 i4 (1 : Int32) (i6 + (1 : Int32)) q4.2 h
      · refine x_if_eq_f (pc := 29) B 50 dX4_isBeyond_29 (by decide) hc ?_
        refine x_aload_n (pc := 32) B 1 dX4_isBeyond_32 rfl rfl ?_
        refine x_iload_n (pc := 33) B 2 dX4_isBeyond_33 rfl rfl ?_
        obtain ⟨q5, hq, h⟩ := xbind h
        refine x_callV1 (st := []) (pc := 34) B dX4_isBeyond_34 (eX4_payoffOf hq) xt_728 xt_58 np_X4_payoffOf hy_X4_payoffOf (Nat.le_of_ble_eq_true rfl) (Nat.le_of_ble_eq_true rfl) (Nat.le_of_ble_eq_true rfl) xt_727 xt_26 xt_725 rfl (iX4_payoffOf hq) rfl ?_
        refine x_iload (pc := 37) B 0 dX4_isBeyond_37 rfl ?_
        rcases xite h with ⟨hc, h⟩ | ⟨hc, h⟩
        · refine x_icmp_le_t (tgt := 46) (pc := 39) B dX4_isBeyond_39 (by decide) hc ?_
          refine x_iconst (pc := 46) B dX4_isBeyond_46 xk_iconst_0 ?_
          refine x_goto (tgt := 65) (pc := 47) B dX4_isBeyond_47 (by decide) ?_
          refine x_istore (L1 := [(8, .int (0 : Int32)), (7, .int v3), (0, .ref a0), (1, .int i1), (2, .int i2), (3, .int i3), (4, .int i4), (5, .int i5), (6, .int i6)]) (pc := 65) B dX4_isBeyond_65 (by decide) rfl ?_
          refine x_iload (pc := 67) B 7 dX4_isBeyond_67 rfl ?_
          rcases xite h with ⟨hc, h⟩ | ⟨hc, h⟩
          · refine x_if_eq_t (tgt := 90) (pc := 69) B dX4_isBeyond_69 (by decide) hc ?_
            refine x_iconst (pc := 90) B dX4_isBeyond_90 xk_iconst_0 ?_
            refine x_istore (L1 := [(5, .int (0 : Int32)), (8, .int (0 : Int32)), (7, .int v3), (0, .ref a0), (1, .int i1), (2, .int i2), (3, .int i3), (4, .int i4), (6, .int i6)]) (pc := 91) B dX4_isBeyond_91 (by decide) rfl ?_
            refine x_iinc (L1 := [(6, .int (i6 + (1 : Int32))), (5, .int (0 : Int32)), (8, .int (0 : Int32)), (7, .int v3), (0, .ref a0), (1, .int i1), (2, .int i2), (3, .int i3), (4, .int i4)]) (pc := 93) B 8 dX4_isBeyond_93 rfl (congrArg _ xk_iconst_1) (by decide) rfl ?_
            refine x_goto (tgt := 6) (pc := 96) B dX4_isBeyond_96 (by decide) ?_
            refine x_sub (L1 := [(0, .ref a0), (1, .int i1), (2, .int i2), (3, .int i3), (4, .int i4), (5, .int (0 : Int32)), (6, .int (i6 + (1 : Int32)))]) [4, 5, 6, 7, 8, 1, 0] rfl ?_
            exact ih a0 i1 i2 i3 i4 (0 : Int32) (i6 + (1 : Int32)) q5.2 h
          · refine x_if_eq_f (pc := 69) B 90 dX4_isBeyond_69 (by decide) hc ?_
            refine x_iload_n (pc := 72) B 5 dX4_isBeyond_72 rfl rfl ?_
            refine x_iload (pc := 73) B 8 dX4_isBeyond_73 rfl ?_
            refine x_ishr (pc := 75) B dX4_isBeyond_75 ?_
            refine x_iconst (pc := 76) B dX4_isBeyond_76 xk_iconst_1 ?_
            refine x_iand (pc := 77) B dX4_isBeyond_77 ?_
            rcases xite h with ⟨hc, h⟩ | ⟨hc, h⟩
            · refine x_if_eq_t (tgt := 86) (pc := 78) B dX4_isBeyond_78 (by decide) hc ?_
              refine x_iconst (pc := 86) B dX4_isBeyond_86 xk_iconst_1 ?_
              refine x_goto (tgt := 91) (pc := 87) B dX4_isBeyond_87 (by decide) ?_
              refine x_istore (L1 := [(5, .int (1 : Int32)), (8, .int (0 : Int32)), (7, .int v3), (0, .ref a0), (1, .int i1), (2, .int i2), (3, .int i3), (4, .int i4), (6, .int i6)]) (pc := 91) B dX4_isBeyond_91 (by decide) rfl ?_
              refine x_iinc (L1 := [(6, .int (i6 + (1 : Int32))), (5, .int (1 : Int32)), (8, .int (0 : Int32)), (7, .int v3), (0, .ref a0), (1, .int i1), (2, .int i2), (3, .int i3), (4, .int i4)]) (pc := 93) B 8 dX4_isBeyond_93 rfl (congrArg _ xk_iconst_1) (by decide) rfl ?_
              refine x_goto (tgt := 6) (pc := 96) B dX4_isBeyond_96 (by decide) ?_
              refine x_sub (L1 := [(0, .ref a0), (1, .int i1), (2, .int i2), (3, .int i3), (4, .int i4), (5, .int (1 : Int32)), (6, .int (i6 + (1 : Int32)))]) [4, 5, 6, 7, 8, 1, 0] rfl ?_
              exact ih a0 i1 i2 i3 i4 (1 : Int32) (i6 + (1 : Int32)) q5.2 h
            · refine x_if_eq_f (pc := 78) B 86 dX4_isBeyond_78 (by decide) hc ?_
              refine x_iload (pc := 81) B 0 dX4_isBeyond_81 rfl ?_
              refine x_if_eq_t (tgt := 90) (pc := 83) B dX4_isBeyond_83 (by decide) (by decide) ?_
              refine x_iconst (pc := 90) B dX4_isBeyond_90 xk_iconst_0 ?_
              refine x_istore (L1 := [(5, .int (0 : Int32)), (8, .int (0 : Int32)), (7, .int v3), (0, .ref a0), (1, .int i1), (2, .int i2), (3, .int i3), (4, .int i4), (6, .int i6)]) (pc := 91) B dX4_isBeyond_91 (by decide) rfl ?_
              refine x_iinc (L1 := [(6, .int (i6 + (1 : Int32))), (5, .int (0 : Int32)), (8, .int (0 : Int32)), (7, .int v3), (0, .ref a0), (1, .int i1), (2, .int i2), (3, .int i3), (4, .int i4)]) (pc := 93) B 8 dX4_isBeyond_93 rfl (congrArg _ xk_iconst_1) (by decide) rfl ?_
              refine x_goto (tgt := 6) (pc := 96) B dX4_isBeyond_96 (by decide) ?_
              refine x_sub (L1 := [(0, .ref a0), (1, .int i1), (2, .int i2), (3, .int i3), (4, .int i4), (5, .int (0 : Int32)), (6, .int (i6 + (1 : Int32)))]) [4, 5, 6, 7, 8, 1, 0] rfl ?_
              exact ih a0 i1 i2 i3 i4 (0 : Int32) (i6 + (1 : Int32)) q5.2 h
        · refine x_icmp_le_f (pc := 39) B 46 dX4_isBeyond_39 (by decide) hc ?_
          refine x_iconst (pc := 42) B dX4_isBeyond_42 xk_iconst_1 ?_
          refine x_goto (tgt := 65) (pc := 43) B dX4_isBeyond_43 (by decide) ?_
          refine x_istore (L1 := [(8, .int (1 : Int32)), (7, .int v3), (0, .ref a0), (1, .int i1), (2, .int i2), (3, .int i3), (4, .int i4), (5, .int i5), (6, .int i6)]) (pc := 65) B dX4_isBeyond_65 (by decide) rfl ?_
          refine x_iload (pc := 67) B 7 dX4_isBeyond_67 rfl ?_
          rcases xite h with ⟨hc, h⟩ | ⟨hc, h⟩
          · refine x_if_eq_t (tgt := 90) (pc := 69) B dX4_isBeyond_69 (by decide) hc ?_
            refine x_iconst (pc := 90) B dX4_isBeyond_90 xk_iconst_0 ?_
            refine x_istore (L1 := [(5, .int (0 : Int32)), (8, .int (1 : Int32)), (7, .int v3), (0, .ref a0), (1, .int i1), (2, .int i2), (3, .int i3), (4, .int i4), (6, .int i6)]) (pc := 91) B dX4_isBeyond_91 (by decide) rfl ?_
            refine x_iinc (L1 := [(6, .int (i6 + (1 : Int32))), (5, .int (0 : Int32)), (8, .int (1 : Int32)), (7, .int v3), (0, .ref a0), (1, .int i1), (2, .int i2), (3, .int i3), (4, .int i4)]) (pc := 93) B 8 dX4_isBeyond_93 rfl (congrArg _ xk_iconst_1) (by decide) rfl ?_
            refine x_goto (tgt := 6) (pc := 96) B dX4_isBeyond_96 (by decide) ?_
            refine x_sub (L1 := [(0, .ref a0), (1, .int i1), (2, .int i2), (3, .int i3), (4, .int i4), (5, .int (0 : Int32)), (6, .int (i6 + (1 : Int32)))]) [4, 5, 6, 7, 8, 1, 0] rfl ?_
            exact ih a0 i1 i2 i3 i4 (0 : Int32) (i6 + (1 : Int32)) q5.2 h
          · refine x_if_eq_f (pc := 69) B 90 dX4_isBeyond_69 (by decide) hc ?_
            refine x_iload_n (pc := 72) B 5 dX4_isBeyond_72 rfl rfl ?_
            refine x_iload (pc := 73) B 8 dX4_isBeyond_73 rfl ?_
            refine x_ishr (pc := 75) B dX4_isBeyond_75 ?_
            refine x_iconst (pc := 76) B dX4_isBeyond_76 xk_iconst_1 ?_
            refine x_iand (pc := 77) B dX4_isBeyond_77 ?_
            rcases xite h with ⟨hc, h⟩ | ⟨hc, h⟩
            · refine x_if_eq_t (tgt := 86) (pc := 78) B dX4_isBeyond_78 (by decide) hc ?_
              refine x_iconst (pc := 86) B dX4_isBeyond_86 xk_iconst_1 ?_
              refine x_goto (tgt := 91) (pc := 87) B dX4_isBeyond_87 (by decide) ?_
              refine x_istore (L1 := [(5, .int (1 : Int32)), (8, .int (1 : Int32)), (7, .int v3), (0, .ref a0), (1, .int i1), (2, .int i2), (3, .int i3), (4, .int i4), (6, .int i6)]) (pc := 91) B dX4_isBeyond_91 (by decide) rfl ?_
              refine x_iinc (L1 := [(6, .int (i6 + (1 : Int32))), (5, .int (1 : Int32)), (8, .int (1 : Int32)), (7, .int v3), (0, .ref a0), (1, .int i1), (2, .int i2), (3, .int i3), (4, .int i4)]) (pc := 93) B 8 dX4_isBeyond_93 rfl (congrArg _ xk_iconst_1) (by decide) rfl ?_
              refine x_goto (tgt := 6) (pc := 96) B dX4_isBeyond_96 (by decide) ?_
              refine x_sub (L1 := [(0, .ref a0), (1, .int i1), (2, .int i2), (3, .int i3), (4, .int i4), (5, .int (1 : Int32)), (6, .int (i6 + (1 : Int32)))]) [4, 5, 6, 7, 8, 1, 0] rfl ?_
              exact ih a0 i1 i2 i3 i4 (1 : Int32) (i6 + (1 : Int32)) q5.2 h
            · refine x_if_eq_f (pc := 78) B 86 dX4_isBeyond_78 (by decide) hc ?_
              refine x_iload (pc := 81) B 0 dX4_isBeyond_81 rfl ?_
              refine x_if_eq_f (pc := 83) B 90 dX4_isBeyond_83 (by decide) (by decide) ?_
              refine x_iconst (pc := 86) B dX4_isBeyond_86 xk_iconst_1 ?_
              refine x_goto (tgt := 91) (pc := 87) B dX4_isBeyond_87 (by decide) ?_
              refine x_istore (L1 := [(5, .int (1 : Int32)), (8, .int (1 : Int32)), (7, .int v3), (0, .ref a0), (1, .int i1), (2, .int i2), (3, .int i3), (4, .int i4), (6, .int i6)]) (pc := 91) B dX4_isBeyond_91 (by decide) rfl ?_
              refine x_iinc (L1 := [(6, .int (i6 + (1 : Int32))), (5, .int (1 : Int32)), (8, .int (1 : Int32)), (7, .int v3), (0, .ref a0), (1, .int i1), (2, .int i2), (3, .int i3), (4, .int i4)]) (pc := 93) B 8 dX4_isBeyond_93 rfl (congrArg _ xk_iconst_1) (by decide) rfl ?_
              refine x_goto (tgt := 6) (pc := 96) B dX4_isBeyond_96 (by decide) ?_
              refine x_sub (L1 := [(0, .ref a0), (1, .int i1), (2, .int i2), (3, .int i3), (4, .int i4), (5, .int (1 : Int32)), (6, .int (i6 + (1 : Int32)))]) [4, 5, 6, 7, 8, 1, 0] rfl ?_
              exact ih a0 i1 i2 i3 i4 (1 : Int32) (i6 + (1 : Int32)) q5.2 h
def fX4_isBeyond (a0 : Nat) (i1 : Int32) (i2 : Int32) (i3 : Int32) (i4 : Int32) (w : XW) : Option (Int32 × XW) := if xis w a0 4 = true then
  fX4_isBeyond_6 1000 a0 i1 i2 i3 i4 (1 : Int32) (0 : Int32) w
  else none
theorem iX4_isBeyond {a0 : Nat} {i1 : Int32} {i2 : Int32} {i3 : Int32} {i4 : Int32} {w : XW} {R9 : (Int32 × XW)} (h : fX4_isBeyond a0 i1 i2 i3 i4 w = some R9) : xis w a0 4 = true := by
  unfold fX4_isBeyond at h
  rcases xite h with ⟨hc, h⟩ | ⟨hc, h⟩
  · exact hc
  · exact absurd h (by simp)
theorem np_X4_isBeyond : (parseMethodDescriptor yX4_isBeyond.desc).map (fun d => d.parameters.length) = some 4 := by decide +kernel
theorem hy_X4_isBeyond : yX4_isBeyond.cls ≠ "java/lang/invoke/MethodHandle" ∧ yX4_isBeyond.cls ≠ "java/lang/invoke/VarHandle" := ⟨by decide +kernel, by decide +kernel⟩
set_option maxRecDepth 20000 in
theorem eX4_isBeyond {cx : CX} {a0 : Nat} {i1 : Int32} {i2 : Int32} {i3 : Int32} {i4 : Int32} {w : XW} {R9 : (Int32 × XW)} (h : fX4_isBeyond a0 i1 i2 i3 i4 w = some R9) : Ct yX4_isBeyond cX4_isBeyond 9 (some .boolean) 3 66 cx [.ref a0, .int i1, .int i2, .int i3, .int i4] w (some (.int R9.1)) R9.2 := by
  refine Ct_of (by decide +kernel) (Nat.le_of_ble_eq_true rfl) (fun K B hR => ?_)
  rw [fX4_isBeyond] at h
  show Wx K cx 9 w.length 0 [(0, .ref a0), (1, .int i1), (2, .int i2), (3, .int i3), (4, .int i4)] [] w
  rcases xite h with ⟨hc, h⟩ | ⟨hc, h⟩
  · skip
    refine x_iconst (pc := 0) B dX4_isBeyond_0 xk_iconst_1 ?_
    refine x_istore (L1 := [(5, .int (1 : Int32)), (0, .ref a0), (1, .int i1), (2, .int i2), (3, .int i3), (4, .int i4)]) (pc := 1) B dX4_isBeyond_1 (by decide) rfl ?_
    refine x_iconst (pc := 3) B dX4_isBeyond_3 xk_iconst_0 ?_
    refine x_istore (L1 := [(6, .int (0 : Int32)), (5, .int (1 : Int32)), (0, .ref a0), (1, .int i1), (2, .int i2), (3, .int i3), (4, .int i4)]) (pc := 4) B dX4_isBeyond_4 (by decide) rfl ?_
    refine x_sub (L1 := [(0, .ref a0), (1, .int i1), (2, .int i2), (3, .int i3), (4, .int i4), (5, .int (1 : Int32)), (6, .int (0 : Int32))]) [2, 3, 4, 5, 6, 1, 0] rfl ?_
    exact pX4_isBeyond_6 B hR 1000 a0 i1 i2 i3 i4 (1 : Int32) (0 : Int32) w h
  · exact absurd h (by simp)
def fX4_never_25 : Nat → Nat → Int32 → Int32 → Int32 → Int32 → XW → Option (Int32 × XW)
  | 0, _, _, _, _, _, _ => none
  | g + 1, a0, i1, i2, i3, i4, w =>
    if (3 : Int32) ≤ i4 then
      some (i3, w)
    else
    (fX4_isThere a0 i4 w).bind fun q4 =>
    if q4.1 = (0 : Int32) then
      fX4_never_25 g a0 i1 i2 (i3 ||| (0 : Int32)) (i4 + (1 : Int32)) q4.2
    else
    (fX4_isBeyond a0 i4 i1 i2 (1 : Int32) q4.2).bind fun q5 =>
    if q5.1 = (0 : Int32) then
      fX4_never_25 g a0 i1 i2 (i3 ||| (0 : Int32)) (i4 + (1 : Int32)) q5.2
    else
    fX4_never_25 g a0 i1 i2 (i3 ||| ((1 : Int32) <<< (i4 &&& 31))) (i4 + (1 : Int32)) q5.2
set_option maxRecDepth 20000 in
theorem pX4_never_25 {K : KX} {cx : CX} {nn : Nat} {R9 : Int32 × XW} (B : XB K cx RX4 cX4_never 5 nn 4 98) (hR : XR K cx nn (some .int) (some (.int R9.1)) R9.2) : ∀ (g : Nat) (a0 : Nat) (i1 : Int32) (i2 : Int32) (i3 : Int32) (i4 : Int32) (w : XW), fX4_never_25 g a0 i1 i2 i3 i4 w = some R9 → Wx K cx 5 nn 25 [(0, .ref a0), (1, .int i1), (2, .int i2), (3, .int i3), (4, .int i4)] [] w := by
  intro g
  induction g with
  | zero =>
    intro a0 i1 i2 i3 i4 w h
    exact absurd (show (none : Option (Int32 × XW)) = some R9 from h) (by simp)
  | succ g ih =>
    intro a0 i1 i2 i3 i4 w h
    rw [fX4_never_25] at h
    refine x_iload (pc := 25) B 4 dX4_never_25 rfl ?_
    refine x_iconst (pc := 27) B dX4_never_27 xk_iconst_3 ?_
    rcases xite h with ⟨hc, h⟩ | ⟨hc, h⟩
    · refine x_icmp_ge_t (tgt := 69) (pc := 28) B dX4_never_28 (by decide) hc ?_
      refine x_iload_n (pc := 69) B 3 dX4_never_69 rfl rfl ?_
      exact x_iret (pc := 70) B hR dX4_never_70 (xzI _) h
    · refine x_icmp_ge_f (pc := 28) B 69 dX4_never_28 (by decide) hc ?_
      refine x_iload_n (pc := 31) B 3 dX4_never_31 rfl rfl ?_
      refine x_aload_n (pc := 32) B 0 dX4_never_32 rfl rfl ?_
      refine x_iload (pc := 33) B 4 dX4_never_33 rfl ?_
      obtain ⟨q4, hq, h⟩ := xbind h
      refine x_callV1 (st := [.int i3]) (pc := 35) B dX4_never_35 (eX4_isThere hq) xt_716 xt_58 np_X4_isThere hy_X4_isThere (Nat.le_of_ble_eq_true rfl) (Nat.le_of_ble_eq_true rfl) (Nat.le_of_ble_eq_true rfl) xt_715 xt_23 xt_713 rfl (iX4_isThere hq) rfl ?_
      rcases xite h with ⟨hc, h⟩ | ⟨hc, h⟩
      · refine x_if_eq_t (tgt := 60) (pc := 38) B dX4_never_38 (by decide) hc ?_
        refine x_iconst (pc := 60) B dX4_never_60 xk_iconst_0 ?_
        refine x_ior (pc := 61) B dX4_never_61 ?_
        refine x_istore_n (L1 := [(3, .int (i3 ||| (0 : Int32))), (0, .ref a0), (1, .int i1), (2, .int i2), (4, .int i4)]) (pc := 62) B dX4_never_62 rfl (by decide) rfl ?_
        refine x_iinc (L1 := [(4, .int (i4 + (1 : Int32))), (3, .int (i3 ||| (0 : Int32))), (0, .ref a0), (1, .int i1), (2, .int i2)]) (pc := 63) B 4 dX4_never_63 rfl (congrArg _ xk_iconst_1) (by decide) rfl ?_
        refine x_goto (tgt := 25) (pc := 66) B dX4_never_66 (by decide) ?_
        refine x_sub (L1 := [(0, .ref a0), (1, .int i1), (2, .int i2), (3, .int (i3 ||| (0 : Int32))), (4, .int (i4 + (1 : Int32)))]) [2, 3, 4, 1, 0] rfl ?_
        exact ih a0 i1 i2 (i3 ||| (0 : Int32)) (i4 + (1 : Int32)) q4.2 h
      · refine x_if_eq_f (pc := 38) B 60 dX4_never_38 (by decide) hc ?_
        refine x_aload_n (pc := 41) B 0 dX4_never_41 rfl rfl ?_
        refine x_iload (pc := 42) B 4 dX4_never_42 rfl ?_
        refine x_iload_n (pc := 44) B 1 dX4_never_44 rfl rfl ?_
        refine x_iload_n (pc := 45) B 2 dX4_never_45 rfl rfl ?_
        refine x_iconst (pc := 46) B dX4_never_46 xk_iconst_1 ?_
        obtain ⟨q5, hq, h⟩ := xbind h
        refine x_callV1 (st := [.int i3]) (pc := 47) B dX4_never_47 (eX4_isBeyond hq) xt_780 xt_58 np_X4_isBeyond hy_X4_isBeyond (Nat.le_of_ble_eq_true rfl) (Nat.le_of_ble_eq_true rfl) (Nat.le_of_ble_eq_true rfl) xt_779 xt_39 xt_777 rfl (iX4_isBeyond hq) rfl ?_
        rcases xite h with ⟨hc, h⟩ | ⟨hc, h⟩
        · refine x_if_eq_t (tgt := 60) (pc := 50) B dX4_never_50 (by decide) hc ?_
          refine x_iconst (pc := 60) B dX4_never_60 xk_iconst_0 ?_
          refine x_ior (pc := 61) B dX4_never_61 ?_
          refine x_istore_n (L1 := [(3, .int (i3 ||| (0 : Int32))), (0, .ref a0), (1, .int i1), (2, .int i2), (4, .int i4)]) (pc := 62) B dX4_never_62 rfl (by decide) rfl ?_
          refine x_iinc (L1 := [(4, .int (i4 + (1 : Int32))), (3, .int (i3 ||| (0 : Int32))), (0, .ref a0), (1, .int i1), (2, .int i2)]) (pc := 63) B 4 dX4_never_63 rfl (congrArg _ xk_iconst_1) (by decide) rfl ?_
          refine x_goto (tgt := 25) (pc := 66) B dX4_never_66 (by decide) ?_
          refine x_sub (L1 := [(0, .ref a0), (1, .int i1), (2, .int i2), (3, .int (i3 ||| (0 : Int32))), (4, .int (i4 + (1 : Int32)))]) [2, 3, 4, 1, 0] rfl ?_
          exact ih a0 i1 i2 (i3 ||| (0 : Int32)) (i4 + (1 : Int32)) q5.2 h
        · refine x_if_eq_f (pc := 50) B 60 dX4_never_50 (by decide) hc ?_
          refine x_iconst (pc := 53) B dX4_never_53 xk_iconst_1 ?_
          refine x_iload (pc := 54) B 4 dX4_never_54 rfl ?_
          refine x_ishl (pc := 56) B dX4_never_56 ?_
          refine x_goto (tgt := 61) (pc := 57) B dX4_never_57 (by decide) ?_
          refine x_ior (pc := 61) B dX4_never_61 ?_
          refine x_istore_n (L1 := [(3, .int (i3 ||| ((1 : Int32) <<< (i4 &&& 31)))), (0, .ref a0), (1, .int i1), (2, .int i2), (4, .int i4)]) (pc := 62) B dX4_never_62 rfl (by decide) rfl ?_
          refine x_iinc (L1 := [(4, .int (i4 + (1 : Int32))), (3, .int (i3 ||| ((1 : Int32) <<< (i4 &&& 31)))), (0, .ref a0), (1, .int i1), (2, .int i2)]) (pc := 63) B 4 dX4_never_63 rfl (congrArg _ xk_iconst_1) (by decide) rfl ?_
          refine x_goto (tgt := 25) (pc := 66) B dX4_never_66 (by decide) ?_
          refine x_sub (L1 := [(0, .ref a0), (1, .int i1), (2, .int i2), (3, .int (i3 ||| ((1 : Int32) <<< (i4 &&& 31)))), (4, .int (i4 + (1 : Int32)))]) [2, 3, 4, 1, 0] rfl ?_
          exact ih a0 i1 i2 (i3 ||| ((1 : Int32) <<< (i4 &&& 31))) (i4 + (1 : Int32)) q5.2 h
def fX4_never (a0 : Nat) (i1 : Int32) (w : XW) : Option (Int32 × XW) := if xis w a0 4 = true then
  (fX4_senders a0 i1 w).bind fun q1 =>
  if q1.1 = (0 : Int32) then
    (fX4_there a0 q1.2).bind fun q2 =>
    (fX4_possible a0 i1 q2.1 q2.2).bind fun q3 =>
    fX4_never_25 1000 a0 i1 q3.1 (0 : Int32) (0 : Int32) q3.2
  else
  some ((0 : Int32), q1.2)
  else none
theorem iX4_never {a0 : Nat} {i1 : Int32} {w : XW} {R9 : (Int32 × XW)} (h : fX4_never a0 i1 w = some R9) : xis w a0 4 = true := by
  unfold fX4_never at h
  rcases xite h with ⟨hc, h⟩ | ⟨hc, h⟩
  · exact hc
  · exact absurd h (by simp)
theorem np_X4_never : (parseMethodDescriptor yX4_never.desc).map (fun d => d.parameters.length) = some 1 := by decide +kernel
theorem hy_X4_never : yX4_never.cls ≠ "java/lang/invoke/MethodHandle" ∧ yX4_never.cls ≠ "java/lang/invoke/VarHandle" := ⟨by decide +kernel, by decide +kernel⟩
set_option maxRecDepth 20000 in
theorem eX4_never {cx : CX} {a0 : Nat} {i1 : Int32} {w : XW} {R9 : (Int32 × XW)} (h : fX4_never a0 i1 w = some R9) : Ct yX4_never cX4_never 5 (some .int) 4 98 cx [.ref a0, .int i1] w (some (.int R9.1)) R9.2 := by
  refine Ct_of (by decide +kernel) (Nat.le_of_ble_eq_true rfl) (fun K B hR => ?_)
  rw [fX4_never] at h
  show Wx K cx 5 w.length 0 [(0, .ref a0), (1, .int i1)] [] w
  rcases xite h with ⟨hc, h⟩ | ⟨hc, h⟩
  · skip
    refine x_aload_n (pc := 0) B 0 dX4_never_0 rfl rfl ?_
    refine x_iload_n (pc := 1) B 1 dX4_never_1 rfl rfl ?_
    obtain ⟨q1, hq, h⟩ := xbind h
    refine x_callV1 (st := []) (pc := 2) B dX4_never_2 (eX4_senders hq) xt_744 xt_58 np_X4_senders hy_X4_senders (Nat.le_of_ble_eq_true rfl) (Nat.le_of_ble_eq_true rfl) (Nat.le_of_ble_eq_true rfl) xt_743 xt_30 xt_741 rfl (iX4_senders hq) rfl ?_
    rcases xite h with ⟨hc, h⟩ | ⟨hc, h⟩
    · refine x_if_eq_t (tgt := 10) (pc := 5) B dX4_never_5 (by decide) hc ?_
      refine x_aload_n (pc := 10) B 0 dX4_never_10 rfl rfl ?_
      refine x_iload_n (pc := 11) B 1 dX4_never_11 rfl rfl ?_
      refine x_aload_n (pc := 12) B 0 dX4_never_12 rfl rfl ?_
      obtain ⟨q2, hq, h⟩ := xbind h
      refine x_callV1 (st := [.int i1, .ref a0]) (pc := 13) B dX4_never_13 (eX4_there hq) xt_768 xt_58 np_X4_there hy_X4_there (Nat.le_of_ble_eq_true rfl) (Nat.le_of_ble_eq_true rfl) (Nat.le_of_ble_eq_true rfl) xt_767 xt_36 xt_765 rfl (iX4_there hq) rfl ?_
      obtain ⟨q3, hq, h⟩ := xbind h
      refine x_callV1 (st := []) (pc := 16) B dX4_never_16 (eX4_possible hq) xt_776 xt_58 np_X4_possible hy_X4_possible (Nat.le_of_ble_eq_true rfl) (Nat.le_of_ble_eq_true rfl) (Nat.le_of_ble_eq_true rfl) xt_775 xt_38 xt_773 rfl (iX4_possible hq) rfl ?_
      refine x_istore_n (L1 := [(2, .int q3.1), (0, .ref a0), (1, .int i1)]) (pc := 19) B dX4_never_19 rfl (by decide) rfl ?_
      refine x_iconst (pc := 20) B dX4_never_20 xk_iconst_0 ?_
      refine x_istore_n (L1 := [(3, .int (0 : Int32)), (2, .int q3.1), (0, .ref a0), (1, .int i1)]) (pc := 21) B dX4_never_21 rfl (by decide) rfl ?_
      refine x_iconst (pc := 22) B dX4_never_22 xk_iconst_0 ?_
      refine x_istore (L1 := [(4, .int (0 : Int32)), (3, .int (0 : Int32)), (2, .int q3.1), (0, .ref a0), (1, .int i1)]) (pc := 23) B dX4_never_23 (by decide) rfl ?_
      refine x_sub (L1 := [(0, .ref a0), (1, .int i1), (2, .int q3.1), (3, .int (0 : Int32)), (4, .int (0 : Int32))]) [3, 4, 2, 1, 0] rfl ?_
      exact pX4_never_25 B hR 1000 a0 i1 q3.1 (0 : Int32) (0 : Int32) q3.2 h
    · refine x_if_eq_f (pc := 5) B 10 dX4_never_5 (by decide) hc ?_
      refine x_iconst (pc := 8) B dX4_never_8 xk_iconst_0 ?_
      exact x_iret (pc := 9) B hR dX4_never_9 (xzI _) h
  · exact absurd h (by simp)
def fX4_isBarred_40 : Nat → Nat → Int32 → Int32 → Int32 → Int32 → Int32 → XW → Option (Int32 × XW)
  | 0, _, _, _, _, _, _, _ => none
  | g + 1, a0, i1, i2, i3, i4, i5, w =>
    if (3 : Int32) ≤ i5 then
      if vp_nar .boolean i4 = i4 then some (i4, w) else none
    else
    if i4 = (0 : Int32) then
      if ((i2 >>> (i5 &&& 31)) &&& (1 : Int32)) = (1 : Int32) then
        (fX4_isBeyond a0 i5 i1 i3 (0 : Int32) w).bind fun q5 =>
        if q5.1 = (0 : Int32) then
          fX4_isBarred_40 g a0 i1 i2 i3 (0 : Int32) (i5 + (1 : Int32)) q5.2
        else
        fX4_isBarred_40 g a0 i1 i2 i3 (1 : Int32) (i5 + (1 : Int32)) q5.2
      else
      fX4_isBarred_40 g a0 i1 i2 i3 (0 : Int32) (i5 + (1 : Int32)) w
    else
    fX4_isBarred_40 g a0 i1 i2 i3 (1 : Int32) (i5 + (1 : Int32)) w
set_option maxRecDepth 20000 in
theorem pX4_isBarred_40 {K : KX} {cx : CX} {nn : Nat} {R9 : Int32 × XW} (B : XB K cx RX4 cX4_isBarred 6 nn 5 122) (hR : XR K cx nn (some .boolean) (some (.int R9.1)) R9.2) : ∀ (g : Nat) (a0 : Nat) (i1 : Int32) (i2 : Int32) (i3 : Int32) (i4 : Int32) (i5 : Int32) (w : XW), fX4_isBarred_40 g a0 i1 i2 i3 i4 i5 w = some R9 → Wx K cx 6 nn 40 [(0, .ref a0), (1, .int i1), (2, .int i2), (3, .int i3), (4, .int i4), (5, .int i5)] [] w := by
  intro g
  induction g with
  | zero =>
    intro a0 i1 i2 i3 i4 i5 w h
    exact absurd (show (none : Option (Int32 × XW)) = some R9 from h) (by simp)
  | succ g ih =>
    intro a0 i1 i2 i3 i4 i5 w h
    rw [fX4_isBarred_40] at h
    refine x_iload (pc := 40) B 5 dX4_isBarred_40 rfl ?_
    refine x_iconst (pc := 42) B dX4_isBarred_42 xk_iconst_3 ?_
    rcases xite h with ⟨hc, h⟩ | ⟨hc, h⟩
    · refine x_icmp_ge_t (tgt := 86) (pc := 43) B dX4_isBarred_43 (by decide) hc ?_
      refine x_iload (pc := 86) B 4 dX4_isBarred_86 rfl ?_
      rcases xite h with ⟨hc, h⟩ | ⟨hc, h⟩
      · exact x_iret (pc := 88) B hR dX4_isBarred_88 (xnar (Or.inl rfl) hc) h
      · exact absurd h (by simp)
    · refine x_icmp_ge_f (pc := 43) B 86 dX4_isBarred_43 (by decide) hc ?_
      refine x_iload (pc := 46) B 4 dX4_isBarred_46 rfl ?_
      rcases xite h with ⟨hc, h⟩ | ⟨hc, h⟩
      · refine x_if_ne_f (pc := 48) B 73 dX4_isBarred_48 (by decide) hc ?_
        refine x_iload_n (pc := 51) B 2 dX4_isBarred_51 rfl rfl ?_
        refine x_iload (pc := 52) B 5 dX4_isBarred_52 rfl ?_
        refine x_ishr (pc := 54) B dX4_isBarred_54 ?_
        refine x_iconst (pc := 55) B dX4_isBarred_55 xk_iconst_1 ?_
        refine x_iand (pc := 56) B dX4_isBarred_56 ?_
        refine x_iconst (pc := 57) B dX4_isBarred_57 xk_iconst_1 ?_
        rcases xite h with ⟨hc, h⟩ | ⟨hc, h⟩
        · refine x_icmp_ne_f (pc := 58) B 77 dX4_isBarred_58 (by decide) hc ?_
          refine x_aload_n (pc := 61) B 0 dX4_isBarred_61 rfl rfl ?_
          refine x_iload (pc := 62) B 5 dX4_isBarred_62 rfl ?_
          refine x_iload_n (pc := 64) B 1 dX4_isBarred_64 rfl rfl ?_
          refine x_iload_n (pc := 65) B 3 dX4_isBarred_65 rfl rfl ?_
          refine x_iconst (pc := 66) B dX4_isBarred_66 xk_iconst_0 ?_
          obtain ⟨q5, hq, h⟩ := xbind h
          refine x_callV1 (st := []) (pc := 67) B dX4_isBarred_67 (eX4_isBeyond hq) xt_780 xt_58 np_X4_isBeyond hy_X4_isBeyond (Nat.le_of_ble_eq_true rfl) (Nat.le_of_ble_eq_true rfl) (Nat.le_of_ble_eq_true rfl) xt_779 xt_39 xt_777 rfl (iX4_isBeyond hq) rfl ?_
          rcases xite h with ⟨hc, h⟩ | ⟨hc, h⟩
          · refine x_if_eq_t (tgt := 77) (pc := 70) B dX4_isBarred_70 (by decide) hc ?_
            refine x_iconst (pc := 77) B dX4_isBarred_77 xk_iconst_0 ?_
            refine x_istore (L1 := [(4, .int (0 : Int32)), (0, .ref a0), (1, .int i1), (2, .int i2), (3, .int i3), (5, .int i5)]) (pc := 78) B dX4_isBarred_78 (by decide) rfl ?_
            refine x_iinc (L1 := [(5, .int (i5 + (1 : Int32))), (4, .int (0 : Int32)), (0, .ref a0), (1, .int i1), (2, .int i2), (3, .int i3)]) (pc := 80) B 5 dX4_isBarred_80 rfl (congrArg _ xk_iconst_1) (by decide) rfl ?_
            refine x_goto (tgt := 40) (pc := 83) B dX4_isBarred_83 (by decide) ?_
            refine x_sub (L1 := [(0, .ref a0), (1, .int i1), (2, .int i2), (3, .int i3), (4, .int (0 : Int32)), (5, .int (i5 + (1 : Int32)))]) [2, 3, 4, 5, 1, 0] rfl ?_
            exact ih a0 i1 i2 i3 (0 : Int32) (i5 + (1 : Int32)) q5.2 h
          · refine x_if_eq_f (pc := 70) B 77 dX4_isBarred_70 (by decide) hc ?_
            refine x_iconst (pc := 73) B dX4_isBarred_73 xk_iconst_1 ?_
            refine x_goto (tgt := 78) (pc := 74) B dX4_isBarred_74 (by decide) ?_
            refine x_istore (L1 := [(4, .int (1 : Int32)), (0, .ref a0), (1, .int i1), (2, .int i2), (3, .int i3), (5, .int i5)]) (pc := 78) B dX4_isBarred_78 (by decide) rfl ?_
            refine x_iinc (L1 := [(5, .int (i5 + (1 : Int32))), (4, .int (1 : Int32)), (0, .ref a0), (1, .int i1), (2, .int i2), (3, .int i3)]) (pc := 80) B 5 dX4_isBarred_80 rfl (congrArg _ xk_iconst_1) (by decide) rfl ?_
            refine x_goto (tgt := 40) (pc := 83) B dX4_isBarred_83 (by decide) ?_
            refine x_sub (L1 := [(0, .ref a0), (1, .int i1), (2, .int i2), (3, .int i3), (4, .int (1 : Int32)), (5, .int (i5 + (1 : Int32)))]) [2, 3, 4, 5, 1, 0] rfl ?_
            exact ih a0 i1 i2 i3 (1 : Int32) (i5 + (1 : Int32)) q5.2 h
        · refine x_icmp_ne_t (tgt := 77) (pc := 58) B dX4_isBarred_58 (by decide) hc ?_
          refine x_iconst (pc := 77) B dX4_isBarred_77 xk_iconst_0 ?_
          refine x_istore (L1 := [(4, .int (0 : Int32)), (0, .ref a0), (1, .int i1), (2, .int i2), (3, .int i3), (5, .int i5)]) (pc := 78) B dX4_isBarred_78 (by decide) rfl ?_
          refine x_iinc (L1 := [(5, .int (i5 + (1 : Int32))), (4, .int (0 : Int32)), (0, .ref a0), (1, .int i1), (2, .int i2), (3, .int i3)]) (pc := 80) B 5 dX4_isBarred_80 rfl (congrArg _ xk_iconst_1) (by decide) rfl ?_
          refine x_goto (tgt := 40) (pc := 83) B dX4_isBarred_83 (by decide) ?_
          refine x_sub (L1 := [(0, .ref a0), (1, .int i1), (2, .int i2), (3, .int i3), (4, .int (0 : Int32)), (5, .int (i5 + (1 : Int32)))]) [2, 3, 4, 5, 1, 0] rfl ?_
          exact ih a0 i1 i2 i3 (0 : Int32) (i5 + (1 : Int32)) w h
      · refine x_if_ne_t (tgt := 73) (pc := 48) B dX4_isBarred_48 (by decide) hc ?_
        refine x_iconst (pc := 73) B dX4_isBarred_73 xk_iconst_1 ?_
        refine x_goto (tgt := 78) (pc := 74) B dX4_isBarred_74 (by decide) ?_
        refine x_istore (L1 := [(4, .int (1 : Int32)), (0, .ref a0), (1, .int i1), (2, .int i2), (3, .int i3), (5, .int i5)]) (pc := 78) B dX4_isBarred_78 (by decide) rfl ?_
        refine x_iinc (L1 := [(5, .int (i5 + (1 : Int32))), (4, .int (1 : Int32)), (0, .ref a0), (1, .int i1), (2, .int i2), (3, .int i3)]) (pc := 80) B 5 dX4_isBarred_80 rfl (congrArg _ xk_iconst_1) (by decide) rfl ?_
        refine x_goto (tgt := 40) (pc := 83) B dX4_isBarred_83 (by decide) ?_
        refine x_sub (L1 := [(0, .ref a0), (1, .int i1), (2, .int i2), (3, .int i3), (4, .int (1 : Int32)), (5, .int (i5 + (1 : Int32)))]) [2, 3, 4, 5, 1, 0] rfl ?_
        exact ih a0 i1 i2 i3 (1 : Int32) (i5 + (1 : Int32)) w h
def fX4_isBarred (a0 : Nat) (i1 : Int32) (w : XW) : Option (Int32 × XW) := if xis w a0 4 = true then
  (fX4_there a0 w).bind fun q1 =>
  (fX4_never a0 i1 q1.2).bind fun q2 =>
  (fX4_senders a0 i1 q2.2).bind fun q3 =>
  if q3.1 = (0 : Int32) then
    if (q1.1 &&& (q2.1 ^^^ (-1 : Int32))) = (0 : Int32) then
      some ((0 : Int32), q3.2)
    else
    (fX4_possible a0 i1 (q1.1 &&& (q2.1 ^^^ (-1 : Int32))) q3.2).bind fun q4 =>
    fX4_isBarred_40 1000 a0 i1 (q1.1 &&& (q2.1 ^^^ (-1 : Int32))) q4.1 (0 : Int32) (0 : Int32) q4.2
  else
  some ((0 : Int32), q3.2)
  else none
theorem iX4_isBarred {a0 : Nat} {i1 : Int32} {w : XW} {R9 : (Int32 × XW)} (h : fX4_isBarred a0 i1 w = some R9) : xis w a0 4 = true := by
  unfold fX4_isBarred at h
  rcases xite h with ⟨hc, h⟩ | ⟨hc, h⟩
  · exact hc
  · exact absurd h (by simp)
theorem np_X4_isBarred : (parseMethodDescriptor yX4_isBarred.desc).map (fun d => d.parameters.length) = some 1 := by decide +kernel
theorem hy_X4_isBarred : yX4_isBarred.cls ≠ "java/lang/invoke/MethodHandle" ∧ yX4_isBarred.cls ≠ "java/lang/invoke/VarHandle" := ⟨by decide +kernel, by decide +kernel⟩
set_option maxRecDepth 20000 in
theorem eX4_isBarred {cx : CX} {a0 : Nat} {i1 : Int32} {w : XW} {R9 : (Int32 × XW)} (h : fX4_isBarred a0 i1 w = some R9) : Ct yX4_isBarred cX4_isBarred 6 (some .boolean) 5 122 cx [.ref a0, .int i1] w (some (.int R9.1)) R9.2 := by
  refine Ct_of (by decide +kernel) (Nat.le_of_ble_eq_true rfl) (fun K B hR => ?_)
  rw [fX4_isBarred] at h
  show Wx K cx 6 w.length 0 [(0, .ref a0), (1, .int i1)] [] w
  rcases xite h with ⟨hc, h⟩ | ⟨hc, h⟩
  · skip
    refine x_aload_n (pc := 0) B 0 dX4_isBarred_0 rfl rfl ?_
    obtain ⟨q1, hq, h⟩ := xbind h
    refine x_callV1 (st := []) (pc := 1) B dX4_isBarred_1 (eX4_there hq) xt_768 xt_58 np_X4_there hy_X4_there (Nat.le_of_ble_eq_true rfl) (Nat.le_of_ble_eq_true rfl) (Nat.le_of_ble_eq_true rfl) xt_767 xt_36 xt_765 rfl (iX4_there hq) rfl ?_
    refine x_aload_n (pc := 4) B 0 dX4_isBarred_4 rfl rfl ?_
    refine x_iload_n (pc := 5) B 1 dX4_isBarred_5 rfl rfl ?_
    obtain ⟨q2, hq, h⟩ := xbind h
    refine x_callV1 (st := [.int q1.1]) (pc := 6) B dX4_isBarred_6 (eX4_never hq) xt_772 xt_58 np_X4_never hy_X4_never (Nat.le_of_ble_eq_true rfl) (Nat.le_of_ble_eq_true rfl) (Nat.le_of_ble_eq_true rfl) xt_771 xt_37 xt_769 rfl (iX4_never hq) rfl ?_
    refine x_iconst (pc := 9) B dX4_isBarred_9 xk_iconst_m1 ?_
    refine x_ixor (pc := 10) B dX4_isBarred_10 ?_
    refine x_iand (pc := 11) B dX4_isBarred_11 ?_
    refine x_istore_n (L1 := [(2, .int (q1.1 &&& (q2.1 ^^^ (-1 : Int32)))), (0, .ref a0), (1, .int i1)]) (pc := 12) B dX4_isBarred_12 rfl (by decide) rfl ?_
    refine x_aload_n (pc := 13) B 1 dX4_isBarred_13 rfl rfl ?_
    refine x_iload_n (pc := 14) B 2 dX4_isBarred_14 rfl rfl ?_
    obtain ⟨q3, hq, h⟩ := xbind h
    refine x_callV1 (st := []) (pc := 15) B dX4_isBarred_15 (eX4_senders hq) xt_744 xt_58 np_X4_senders hy_X4_senders (Nat.le_of_ble_eq_true rfl) (Nat.le_of_ble_eq_true rfl) (Nat.le_of_ble_eq_true rfl) xt_743 xt_30 xt_741 rfl (iX4_senders hq) rfl ?_
    rcases xite h with ⟨hc, h⟩ | ⟨hc, h⟩
    · refine x_if_ne_f (pc := 18) B 25 dX4_isBarred_18 (by decide) hc ?_
      refine x_iload_n (pc := 21) B 0 dX4_isBarred_21 rfl rfl ?_
      rcases xite h with ⟨hc, h⟩ | ⟨hc, h⟩
      · refine x_if_ne_f (pc := 22) B 27 dX4_isBarred_22 (by decide) hc ?_
        refine x_iconst (pc := 25) B dX4_isBarred_25 xk_iconst_0 ?_
        exact x_iret (pc := 26) B hR dX4_isBarred_26 xz0 h
      · refine x_if_ne_t (tgt := 27) (pc := 22) B dX4_isBarred_22 (by decide) hc ?_
        refine x_aload_n (pc := 27) B 1 dX4_isBarred_27 rfl rfl ?_
        refine x_iload_n (pc := 28) B 2 dX4_isBarred_28 rfl rfl ?_
        refine x_iload_n (pc := 29) B 0 dX4_isBarred_29 rfl rfl ?_
        obtain ⟨q4, hq, h⟩ := xbind h
        refine x_callV1 (st := []) (pc := 30) B dX4_isBarred_30 (eX4_possible hq) xt_776 xt_58 np_X4_possible hy_X4_possible (Nat.le_of_ble_eq_true rfl) (Nat.le_of_ble_eq_true rfl) (Nat.le_of_ble_eq_true rfl) xt_775 xt_38 xt_773 rfl (iX4_possible hq) rfl ?_
        refine x_istore_n (L1 := [(3, .int q4.1), (2, .int (q1.1 &&& (q2.1 ^^^ (-1 : Int32)))), (0, .ref a0), (1, .int i1)]) (pc := 33) B dX4_isBarred_33 rfl (by decide) rfl ?_
        refine x_iconst (pc := 34) B dX4_isBarred_34 xk_iconst_0 ?_
        refine x_istore (L1 := [(4, .int (0 : Int32)), (3, .int q4.1), (2, .int (q1.1 &&& (q2.1 ^^^ (-1 : Int32)))), (0, .ref a0), (1, .int i1)]) (pc := 35) B dX4_isBarred_35 (by decide) rfl ?_
        refine x_iconst (pc := 37) B dX4_isBarred_37 xk_iconst_0 ?_
        refine x_istore (L1 := [(5, .int (0 : Int32)), (4, .int (0 : Int32)), (3, .int q4.1), (2, .int (q1.1 &&& (q2.1 ^^^ (-1 : Int32)))), (0, .ref a0), (1, .int i1)]) (pc := 38) B dX4_isBarred_38 (by decide) rfl ?_
        refine x_sub (L1 := [(0, .ref a0), (1, .int i1), (2, .int (q1.1 &&& (q2.1 ^^^ (-1 : Int32)))), (3, .int q4.1), (4, .int (0 : Int32)), (5, .int (0 : Int32))]) [4, 5, 3, 2, 1, 0] rfl ?_
        exact pX4_isBarred_40 B hR 1000 a0 i1 (q1.1 &&& (q2.1 ^^^ (-1 : Int32))) q4.1 (0 : Int32) (0 : Int32) q4.2 h
    · refine x_if_ne_t (tgt := 25) (pc := 18) B dX4_isBarred_18 (by decide) hc ?_
      refine x_iconst (pc := 25) B dX4_isBarred_25 xk_iconst_0 ?_
      exact x_iret (pc := 26) B hR dX4_isBarred_26 xz0 h
  · exact absurd h (by simp)
def fX4_isRefined (a0 : Nat) (w : XW) : Option (Int32 × XW) := if xis w a0 4 = true then
  (fX4_holds a0 w).bind fun q1 =>
  if q1.1 = (0 : Int32) then
    some ((0 : Int32), q1.2)
  else
  (fX4_isBarred a0 (0 : Int32) q1.2).bind fun q2 =>
  if q2.1 = (0 : Int32) then
    (fX4_isBarred a0 (1 : Int32) q2.2).bind fun q3 =>
    if q3.1 = (0 : Int32) then
      (fX4_isBarred a0 (2 : Int32) q3.2).bind fun q4 =>
      if q4.1 = (0 : Int32) then
        some ((1 : Int32), q4.2)
      else
      some ((0 : Int32), q4.2)
    else
    some ((0 : Int32), q3.2)
  else
  some ((0 : Int32), q2.2)
  else none
theorem iX4_isRefined {a0 : Nat} {w : XW} {R9 : (Int32 × XW)} (h : fX4_isRefined a0 w = some R9) : xis w a0 4 = true := by
  unfold fX4_isRefined at h
  rcases xite h with ⟨hc, h⟩ | ⟨hc, h⟩
  · exact hc
  · exact absurd h (by simp)
theorem np_X4_isRefined : (parseMethodDescriptor yX4_isRefined.desc).map (fun d => d.parameters.length) = some 0 := by decide +kernel
theorem hy_X4_isRefined : yX4_isRefined.cls ≠ "java/lang/invoke/MethodHandle" ∧ yX4_isRefined.cls ≠ "java/lang/invoke/VarHandle" := ⟨by decide +kernel, by decide +kernel⟩
set_option maxRecDepth 20000 in
theorem eX4_isRefined {cx : CX} {a0 : Nat} {w : XW} {R9 : (Int32 × XW)} (h : fX4_isRefined a0 w = some R9) : Ct yX4_isRefined cX4_isRefined 1 (some .boolean) 6 147 cx [.ref a0] w (some (.int R9.1)) R9.2 := by
  refine Ct_of (by decide +kernel) (Nat.le_of_ble_eq_true rfl) (fun K B hR => ?_)
  rw [fX4_isRefined] at h
  show Wx K cx 1 w.length 0 [(0, .ref a0)] [] w
  rcases xite h with ⟨hc, h⟩ | ⟨hc, h⟩
  · skip
    refine x_aload_n (pc := 0) B 0 dX4_isRefined_0 rfl rfl ?_
    obtain ⟨q1, hq, h⟩ := xbind h
    refine x_callV1 (st := []) (pc := 1) B dX4_isRefined_1 (eX4_holds hq) xt_708 xt_58 np_X4_holds hy_X4_holds (Nat.le_of_ble_eq_true rfl) (Nat.le_of_ble_eq_true rfl) (Nat.le_of_ble_eq_true rfl) xt_707 xt_21 xt_705 rfl (iX4_holds hq) rfl ?_
    rcases xite h with ⟨hc, h⟩ | ⟨hc, h⟩
    · refine x_if_eq_t (tgt := 35) (pc := 4) B dX4_isRefined_4 (by decide) hc ?_
      refine x_iconst (pc := 35) B dX4_isRefined_35 xk_iconst_0 ?_
      exact x_iret (pc := 36) B hR dX4_isRefined_36 xz0 h
    · refine x_if_eq_f (pc := 4) B 35 dX4_isRefined_4 (by decide) hc ?_
      refine x_aload_n (pc := 7) B 0 dX4_isRefined_7 rfl rfl ?_
      refine x_iconst (pc := 8) B dX4_isRefined_8 xk_iconst_0 ?_
      obtain ⟨q2, hq, h⟩ := xbind h
      refine x_callV1 (st := []) (pc := 9) B dX4_isRefined_9 (eX4_isBarred hq) xt_764 xt_58 np_X4_isBarred hy_X4_isBarred (Nat.le_of_ble_eq_true rfl) (Nat.le_of_ble_eq_true rfl) (Nat.le_of_ble_eq_true rfl) xt_763 xt_35 xt_761 rfl (iX4_isBarred hq) rfl ?_
      rcases xite h with ⟨hc, h⟩ | ⟨hc, h⟩
      · refine x_if_ne_f (pc := 12) B 35 dX4_isRefined_12 (by decide) hc ?_
        refine x_aload_n (pc := 15) B 0 dX4_isRefined_15 rfl rfl ?_
        refine x_iconst (pc := 16) B dX4_isRefined_16 xk_iconst_1 ?_
        obtain ⟨q3, hq, h⟩ := xbind h
        refine x_callV1 (st := []) (pc := 17) B dX4_isRefined_17 (eX4_isBarred hq) xt_764 xt_58 np_X4_isBarred hy_X4_isBarred (Nat.le_of_ble_eq_true rfl) (Nat.le_of_ble_eq_true rfl) (Nat.le_of_ble_eq_true rfl) xt_763 xt_35 xt_761 rfl (iX4_isBarred hq) rfl ?_
        rcases xite h with ⟨hc, h⟩ | ⟨hc, h⟩
        · refine x_if_ne_f (pc := 20) B 35 dX4_isRefined_20 (by decide) hc ?_
          refine x_aload_n (pc := 23) B 0 dX4_isRefined_23 rfl rfl ?_
          refine x_iconst (pc := 24) B dX4_isRefined_24 xk_iconst_2 ?_
          obtain ⟨q4, hq, h⟩ := xbind h
          refine x_callV1 (st := []) (pc := 25) B dX4_isRefined_25 (eX4_isBarred hq) xt_764 xt_58 np_X4_isBarred hy_X4_isBarred (Nat.le_of_ble_eq_true rfl) (Nat.le_of_ble_eq_true rfl) (Nat.le_of_ble_eq_true rfl) xt_763 xt_35 xt_761 rfl (iX4_isBarred hq) rfl ?_
          rcases xite h with ⟨hc, h⟩ | ⟨hc, h⟩
          · refine x_if_ne_f (pc := 28) B 35 dX4_isRefined_28 (by decide) hc ?_
            refine x_iconst (pc := 31) B dX4_isRefined_31 xk_iconst_1 ?_
            refine x_goto (tgt := 36) (pc := 32) B dX4_isRefined_32 (by decide) ?_
            exact x_iret (pc := 36) B hR dX4_isRefined_36 xz1 h
          · refine x_if_ne_t (tgt := 35) (pc := 28) B dX4_isRefined_28 (by decide) hc ?_
            refine x_iconst (pc := 35) B dX4_isRefined_35 xk_iconst_0 ?_
            exact x_iret (pc := 36) B hR dX4_isRefined_36 xz0 h
        · refine x_if_ne_t (tgt := 35) (pc := 20) B dX4_isRefined_20 (by decide) hc ?_
          refine x_iconst (pc := 35) B dX4_isRefined_35 xk_iconst_0 ?_
          exact x_iret (pc := 36) B hR dX4_isRefined_36 xz0 h
      · refine x_if_ne_t (tgt := 35) (pc := 12) B dX4_isRefined_12 (by decide) hc ?_
        refine x_iconst (pc := 35) B dX4_isRefined_35 xk_iconst_0 ?_
        exact x_iret (pc := 36) B hR dX4_isRefined_36 xz0 h
  · exact absurd h (by simp)
def fX4_sort_6 : Nat → Nat → Int32 → Int32 → Int32 → XW → Option (Int32 × XW)
  | 0, _, _, _, _, _ => none
  | g + 1, a0, i1, i2, i3, w =>
    if (3 : Int32) ≤ i3 then
      if (((i2 &&& (1 : Int32)) + ((i2 >>> ((1 : Int32) &&& 31)) &&& (1 : Int32))) + (i2 >>> ((2 : Int32) &&& 31))) = (1 : Int32) then
        some ((0 : Int32), w)
      else
      if (((i2 &&& (1 : Int32)) + ((i2 >>> ((1 : Int32) &&& 31)) &&& (1 : Int32))) + (i2 >>> ((2 : Int32) &&& 31))) = i1 then
        some ((1 : Int32), w)
      else
      some ((2 : Int32), w)
    else
    (fX4_isThere a0 i3 w).bind fun q1 =>
    if q1.1 = (0 : Int32) then
      (fX4_isThere a0 i3 q1.2).bind fun q2 =>
      if q2.1 = (0 : Int32) then
        fX4_sort_6 g a0 (i1 + (0 : Int32)) (i2 ||| (0 : Int32)) (i3 + (1 : Int32)) q2.2
      else
      (xgR q2.2 a0 4 10).bind fun v3 =>
      (xaI q2.2 v3 i3).bind fun v4 =>
      fX4_sort_6 g a0 (i1 + (0 : Int32)) (i2 ||| ((1 : Int32) <<< (v4 &&& 31))) (i3 + (1 : Int32)) q2.2
    else
    (fX4_isThere a0 i3 q1.2).bind fun q5 =>
    if q5.1 = (0 : Int32) then
      fX4_sort_6 g a0 (i1 + (1 : Int32)) (i2 ||| (0 : Int32)) (i3 + (1 : Int32)) q5.2
    else
    (xgR q5.2 a0 4 10).bind fun v6 =>
    (xaI q5.2 v6 i3).bind fun v7 =>
    fX4_sort_6 g a0 (i1 + (1 : Int32)) (i2 ||| ((1 : Int32) <<< (v7 &&& 31))) (i3 + (1 : Int32)) q5.2
set_option maxRecDepth 20000 in
theorem pX4_sort_6 {K : KX} {cx : CX} {nn : Nat} {R9 : Int32 × XW} (B : XB K cx RX4 cX4_sort 4 nn 1 21) (hR : XR K cx nn (some .int) (some (.int R9.1)) R9.2) : ∀ (g : Nat) (a0 : Nat) (i1 : Int32) (i2 : Int32) (i3 : Int32) (w : XW), fX4_sort_6 g a0 i1 i2 i3 w = some R9 → Wx K cx 4 nn 6 [(0, .ref a0), (1, .int i1), (2, .int i2), (3, .int i3)] [] w := by
  intro g
  induction g with
  | zero =>
    intro a0 i1 i2 i3 w h
    exact absurd (show (none : Option (Int32 × XW)) = some R9 from h) (by simp)
  | succ g ih =>
    intro a0 i1 i2 i3 w h
    rw [fX4_sort_6] at h
    refine x_iload_n (pc := 6) B 3 dX4_sort_6 rfl rfl ?_
    refine x_iconst (pc := 7) B dX4_sort_7 xk_iconst_3 ?_
    rcases xite h with ⟨hc, h⟩ | ⟨hc, h⟩
    · refine x_icmp_ge_t (tgt := 56) (pc := 8) B dX4_sort_8 (by decide) hc ?_
      refine x_iload_n (pc := 56) B 2 dX4_sort_56 rfl rfl ?_
      refine x_iconst (pc := 57) B dX4_sort_57 xk_iconst_1 ?_
      refine x_iand (pc := 58) B dX4_sort_58 ?_
      refine x_iload_n (pc := 59) B 2 dX4_sort_59 rfl rfl ?_
      refine x_iconst (pc := 60) B dX4_sort_60 xk_iconst_1 ?_
      refine x_ishr (pc := 61) B dX4_sort_61 ?_
      refine x_iconst (pc := 62) B dX4_sort_62 xk_iconst_1 ?_
      refine x_iand (pc := 63) B dX4_sort_63 ?_
      refine x_iadd (pc := 64) B dX4_sort_64 ?_
      refine x_iload_n (pc := 65) B 2 dX4_sort_65 rfl rfl ?_
      refine x_iconst (pc := 66) B dX4_sort_66 xk_iconst_2 ?_
      refine x_ishr (pc := 67) B dX4_sort_67 ?_
      refine x_iadd (pc := 68) B dX4_sort_68 ?_
      refine x_istore_n (L1 := [(3, .int (((i2 &&& (1 : Int32)) + ((i2 >>> ((1 : Int32) &&& 31)) &&& (1 : Int32))) + (i2 >>> ((2 : Int32) &&& 31)))), (0, .ref a0), (1, .int i1), (2, .int i2)]) (pc := 69) B dX4_sort_69 rfl (by decide) rfl ?_
      refine x_iload_n (pc := 70) B 0 dX4_sort_70 rfl rfl ?_
      refine x_iconst (pc := 71) B dX4_sort_71 xk_iconst_1 ?_
      rcases xite h with ⟨hc, h⟩ | ⟨hc, h⟩
      · refine x_icmp_ne_f (pc := 72) B 79 dX4_sort_72 (by decide) hc ?_
        refine x_iconst (pc := 75) B dX4_sort_75 xk_iconst_0 ?_
        refine x_goto (tgt := 89) (pc := 76) B dX4_sort_76 (by decide) ?_
        exact x_iret (pc := 89) B hR dX4_sort_89 (xzI _) h
      · refine x_icmp_ne_t (tgt := 79) (pc := 72) B dX4_sort_72 (by decide) hc ?_
        refine x_iload_n (pc := 79) B 0 dX4_sort_79 rfl rfl ?_
        refine x_iload_n (pc := 80) B 2 dX4_sort_80 rfl rfl ?_
        rcases xite h with ⟨hc, h⟩ | ⟨hc, h⟩
        · refine x_icmp_ne_f (pc := 81) B 88 dX4_sort_81 (by decide) hc ?_
          refine x_iconst (pc := 84) B dX4_sort_84 xk_iconst_1 ?_
          refine x_goto (tgt := 89) (pc := 85) B dX4_sort_85 (by decide) ?_
          exact x_iret (pc := 89) B hR dX4_sort_89 (xzI _) h
        · refine x_icmp_ne_t (tgt := 88) (pc := 81) B dX4_sort_81 (by decide) hc ?_
          refine x_iconst (pc := 88) B dX4_sort_88 xk_iconst_2 ?_
          exact x_iret (pc := 89) B hR dX4_sort_89 (xzI _) h
    · refine x_icmp_ge_f (pc := 8) B 56 dX4_sort_8 (by decide) hc ?_
      refine x_iload_n (pc := 11) B 1 dX4_sort_11 rfl rfl ?_
      refine x_aload_n (pc := 12) B 0 dX4_sort_12 rfl rfl ?_
      refine x_iload_n (pc := 13) B 3 dX4_sort_13 rfl rfl ?_
      obtain ⟨q1, hq, h⟩ := xbind h
      refine x_callV1 (st := [.int i1]) (pc := 14) B dX4_sort_14 (eX4_isThere hq) xt_716 xt_58 np_X4_isThere hy_X4_isThere (Nat.le_of_ble_eq_true rfl) (Nat.le_of_ble_eq_true rfl) (Nat.le_of_ble_eq_true rfl) xt_715 xt_23 xt_713 rfl (iX4_isThere hq) rfl ?_
      rcases xite h with ⟨hc, h⟩ | ⟨hc, h⟩
      · refine x_if_eq_t (tgt := 24) (pc := 17) B dX4_sort_17 (by decide) hc ?_
        refine x_iconst (pc := 24) B dX4_sort_24 xk_iconst_0 ?_
        refine x_iadd (pc := 25) B dX4_sort_25 ?_
        refine x_istore_n (L1 := [(1, .int (i1 + (0 : Int32))), (0, .ref a0), (2, .int i2), (3, .int i3)]) (pc := 26) B dX4_sort_26 rfl (by decide) rfl ?_
        refine x_iload_n (pc := 27) B 2 dX4_sort_27 rfl rfl ?_
        refine x_aload_n (pc := 28) B 1 dX4_sort_28 rfl rfl ?_
        refine x_iload_n (pc := 29) B 3 dX4_sort_29 rfl rfl ?_
        obtain ⟨q2, hq, h⟩ := xbind h
        refine x_callV1 (st := [.int i2]) (pc := 30) B dX4_sort_30 (eX4_isThere hq) xt_716 xt_58 np_X4_isThere hy_X4_isThere (Nat.le_of_ble_eq_true rfl) (Nat.le_of_ble_eq_true rfl) (Nat.le_of_ble_eq_true rfl) xt_715 xt_23 xt_713 rfl (iX4_isThere hq) rfl ?_
        rcases xite h with ⟨hc, h⟩ | ⟨hc, h⟩
        · refine x_if_eq_t (tgt := 47) (pc := 33) B dX4_sort_33 (by decide) hc ?_
          refine x_iconst (pc := 47) B dX4_sort_47 xk_iconst_0 ?_
          refine x_ior (pc := 48) B dX4_sort_48 ?_
          refine x_istore_n (L1 := [(2, .int (i2 ||| (0 : Int32))), (1, .int (i1 + (0 : Int32))), (0, .ref a0), (3, .int i3)]) (pc := 49) B dX4_sort_49 rfl (by decide) rfl ?_
          refine x_iinc (L1 := [(3, .int (i3 + (1 : Int32))), (2, .int (i2 ||| (0 : Int32))), (1, .int (i1 + (0 : Int32))), (0, .ref a0)]) (pc := 50) B 3 dX4_sort_50 rfl (congrArg _ xk_iconst_1) (by decide) rfl ?_
          refine x_goto (tgt := 6) (pc := 53) B dX4_sort_53 (by decide) ?_
          refine x_sub (L1 := [(0, .ref a0), (1, .int (i1 + (0 : Int32))), (2, .int (i2 ||| (0 : Int32))), (3, .int (i3 + (1 : Int32)))]) [3, 2, 1, 0] rfl ?_
          exact ih a0 (i1 + (0 : Int32)) (i2 ||| (0 : Int32)) (i3 + (1 : Int32)) q2.2 h
        · refine x_if_eq_f (pc := 33) B 47 dX4_sort_33 (by decide) hc ?_
          refine x_iconst (pc := 36) B dX4_sort_36 xk_iconst_1 ?_
          refine x_aload_n (pc := 37) B 1 dX4_sort_37 rfl rfl ?_
          obtain ⟨v3, hv, h⟩ := xbind h
          refine x_getR (k0 := 10) (pc := 38) B dX4_sort_38 rfl xi_4 (by decide) ⟨rfl, rfl, rfl⟩ xt_612 hv ?_
          refine x_iload_n (pc := 41) B 3 dX4_sort_41 rfl rfl ?_
          obtain ⟨v4, hv, h⟩ := xbind h
          refine x_iald (pc := 42) B dX4_sort_42 hv ?_
          refine x_ishl (pc := 43) B dX4_sort_43 ?_
          refine x_goto (tgt := 48) (pc := 44) B dX4_sort_44 (by decide) ?_
          refine x_ior (pc := 48) B dX4_sort_48 ?_
          refine x_istore_n (L1 := [(2, .int (i2 ||| ((1 : Int32) <<< (v4 &&& 31)))), (1, .int (i1 + (0 : Int32))), (0, .ref a0), (3, .int i3)]) (pc := 49) B dX4_sort_49 rfl (by decide) rfl ?_
          refine x_iinc (L1 := [(3, .int (i3 + (1 : Int32))), (2, .int (i2 ||| ((1 : Int32) <<< (v4 &&& 31)))), (1, .int (i1 + (0 : Int32))), (0, .ref a0)]) (pc := 50) B 3 dX4_sort_50 rfl (congrArg _ xk_iconst_1) (by decide) rfl ?_
          refine x_goto (tgt := 6) (pc := 53) B dX4_sort_53 (by decide) ?_
          refine x_sub (L1 := [(0, .ref a0), (1, .int (i1 + (0 : Int32))), (2, .int (i2 ||| ((1 : Int32) <<< (v4 &&& 31)))), (3, .int (i3 + (1 : Int32)))]) [3, 2, 1, 0] rfl ?_
          exact ih a0 (i1 + (0 : Int32)) (i2 ||| ((1 : Int32) <<< (v4 &&& 31))) (i3 + (1 : Int32)) q2.2 h
      · refine x_if_eq_f (pc := 17) B 24 dX4_sort_17 (by decide) hc ?_
        refine x_iconst (pc := 20) B dX4_sort_20 xk_iconst_1 ?_
        refine x_goto (tgt := 25) (pc := 21) B dX4_sort_21 (by decide) ?_
        refine x_iadd (pc := 25) B dX4_sort_25 ?_
        refine x_istore_n (L1 := [(1, .int (i1 + (1 : Int32))), (0, .ref a0), (2, .int i2), (3, .int i3)]) (pc := 26) B dX4_sort_26 rfl (by decide) rfl ?_
        refine x_iload_n (pc := 27) B 2 dX4_sort_27 rfl rfl ?_
        refine x_aload_n (pc := 28) B 1 dX4_sort_28 rfl rfl ?_
        refine x_iload_n (pc := 29) B 3 dX4_sort_29 rfl rfl ?_
        obtain ⟨q5, hq, h⟩ := xbind h
        refine x_callV1 (st := [.int i2]) (pc := 30) B dX4_sort_30 (eX4_isThere hq) xt_716 xt_58 np_X4_isThere hy_X4_isThere (Nat.le_of_ble_eq_true rfl) (Nat.le_of_ble_eq_true rfl) (Nat.le_of_ble_eq_true rfl) xt_715 xt_23 xt_713 rfl (iX4_isThere hq) rfl ?_
        rcases xite h with ⟨hc, h⟩ | ⟨hc, h⟩
        · refine x_if_eq_t (tgt := 47) (pc := 33) B dX4_sort_33 (by decide) hc ?_
          refine x_iconst (pc := 47) B dX4_sort_47 xk_iconst_0 ?_
          refine x_ior (pc := 48) B dX4_sort_48 ?_
          refine x_istore_n (L1 := [(2, .int (i2 ||| (0 : Int32))), (1, .int (i1 + (1 : Int32))), (0, .ref a0), (3, .int i3)]) (pc := 49) B dX4_sort_49 rfl (by decide) rfl ?_
          refine x_iinc (L1 := [(3, .int (i3 + (1 : Int32))), (2, .int (i2 ||| (0 : Int32))), (1, .int (i1 + (1 : Int32))), (0, .ref a0)]) (pc := 50) B 3 dX4_sort_50 rfl (congrArg _ xk_iconst_1) (by decide) rfl ?_
          refine x_goto (tgt := 6) (pc := 53) B dX4_sort_53 (by decide) ?_
          refine x_sub (L1 := [(0, .ref a0), (1, .int (i1 + (1 : Int32))), (2, .int (i2 ||| (0 : Int32))), (3, .int (i3 + (1 : Int32)))]) [3, 2, 1, 0] rfl ?_
          exact ih a0 (i1 + (1 : Int32)) (i2 ||| (0 : Int32)) (i3 + (1 : Int32)) q5.2 h
        · refine x_if_eq_f (pc := 33) B 47 dX4_sort_33 (by decide) hc ?_
          refine x_iconst (pc := 36) B dX4_sort_36 xk_iconst_1 ?_
          refine x_aload_n (pc := 37) B 1 dX4_sort_37 rfl rfl ?_
          obtain ⟨v6, hv, h⟩ := xbind h
          refine x_getR (k0 := 10) (pc := 38) B dX4_sort_38 rfl xi_4 (by decide) ⟨rfl, rfl, rfl⟩ xt_612 hv ?_
          refine x_iload_n (pc := 41) B 3 dX4_sort_41 rfl rfl ?_
          obtain ⟨v7, hv, h⟩ := xbind h
          refine x_iald (pc := 42) B dX4_sort_42 hv ?_
          refine x_ishl (pc := 43) B dX4_sort_43 ?_
          refine x_goto (tgt := 48) (pc := 44) B dX4_sort_44 (by decide) ?_
          refine x_ior (pc := 48) B dX4_sort_48 ?_
          refine x_istore_n (L1 := [(2, .int (i2 ||| ((1 : Int32) <<< (v7 &&& 31)))), (1, .int (i1 + (1 : Int32))), (0, .ref a0), (3, .int i3)]) (pc := 49) B dX4_sort_49 rfl (by decide) rfl ?_
          refine x_iinc (L1 := [(3, .int (i3 + (1 : Int32))), (2, .int (i2 ||| ((1 : Int32) <<< (v7 &&& 31)))), (1, .int (i1 + (1 : Int32))), (0, .ref a0)]) (pc := 50) B 3 dX4_sort_50 rfl (congrArg _ xk_iconst_1) (by decide) rfl ?_
          refine x_goto (tgt := 6) (pc := 53) B dX4_sort_53 (by decide) ?_
          refine x_sub (L1 := [(0, .ref a0), (1, .int (i1 + (1 : Int32))), (2, .int (i2 ||| ((1 : Int32) <<< (v7 &&& 31)))), (3, .int (i3 + (1 : Int32)))]) [3, 2, 1, 0] rfl ?_
          exact ih a0 (i1 + (1 : Int32)) (i2 ||| ((1 : Int32) <<< (v7 &&& 31))) (i3 + (1 : Int32)) q5.2 h
def fX4_sort (a0 : Nat) (w : XW) : Option (Int32 × XW) := if xis w a0 4 = true then
  fX4_sort_6 1000 a0 (0 : Int32) (0 : Int32) (0 : Int32) w
  else none
theorem iX4_sort {a0 : Nat} {w : XW} {R9 : (Int32 × XW)} (h : fX4_sort a0 w = some R9) : xis w a0 4 = true := by
  unfold fX4_sort at h
  rcases xite h with ⟨hc, h⟩ | ⟨hc, h⟩
  · exact hc
  · exact absurd h (by simp)
theorem np_X4_sort : (parseMethodDescriptor yX4_sort.desc).map (fun d => d.parameters.length) = some 0 := by decide +kernel
theorem hy_X4_sort : yX4_sort.cls ≠ "java/lang/invoke/MethodHandle" ∧ yX4_sort.cls ≠ "java/lang/invoke/VarHandle" := ⟨by decide +kernel, by decide +kernel⟩
set_option maxRecDepth 20000 in
theorem eX4_sort {cx : CX} {a0 : Nat} {w : XW} {R9 : (Int32 × XW)} (h : fX4_sort a0 w = some R9) : Ct yX4_sort cX4_sort 4 (some .int) 1 21 cx [.ref a0] w (some (.int R9.1)) R9.2 := by
  refine Ct_of (by decide +kernel) (Nat.le_of_ble_eq_true rfl) (fun K B hR => ?_)
  rw [fX4_sort] at h
  show Wx K cx 4 w.length 0 [(0, .ref a0)] [] w
  rcases xite h with ⟨hc, h⟩ | ⟨hc, h⟩
  · skip
    refine x_iconst (pc := 0) B dX4_sort_0 xk_iconst_0 ?_
    refine x_istore_n (L1 := [(1, .int (0 : Int32)), (0, .ref a0)]) (pc := 1) B dX4_sort_1 rfl (by decide) rfl ?_
    refine x_iconst (pc := 2) B dX4_sort_2 xk_iconst_0 ?_
    refine x_istore_n (L1 := [(2, .int (0 : Int32)), (1, .int (0 : Int32)), (0, .ref a0)]) (pc := 3) B dX4_sort_3 rfl (by decide) rfl ?_
    refine x_iconst (pc := 4) B dX4_sort_4 xk_iconst_0 ?_
    refine x_istore_n (L1 := [(3, .int (0 : Int32)), (2, .int (0 : Int32)), (1, .int (0 : Int32)), (0, .ref a0)]) (pc := 5) B dX4_sort_5 rfl (by decide) rfl ?_
    refine x_sub (L1 := [(0, .ref a0), (1, .int (0 : Int32)), (2, .int (0 : Int32)), (3, .int (0 : Int32))]) [3, 2, 1, 0] rfl ?_
    exact pX4_sort_6 B hR 1000 a0 (0 : Int32) (0 : Int32) (0 : Int32) w h
  · exact absurd h (by simp)
def fX4_counts_4 : Nat → Nat → Int32 → Int32 → Int32 → XW → Option (Int32 × XW)
  | 0, _, _, _, _, _ => none
  | g + 1, a0, i1, i2, i3, w =>
    if (729 : Int32) ≤ i3 then
      some (i2, w)
    else
    (fX4_looksAt a0 i3 w).bind fun q1 =>
    (fX4_holds a0 q1).bind fun q2 =>
    if q2.1 = (0 : Int32) then
      fX4_counts_4 g a0 i1 (i2 + (0 : Int32)) (i3 + (1 : Int32)) q2.2
    else
    if i1 = (0 : Int32) then
      fX4_counts_4 g a0 i1 (i2 + (1 : Int32)) (i3 + (1 : Int32)) q2.2
    else
    if i1 = (1 : Int32) then
      (fX4_isRefined a0 q2.2).bind fun q3 =>
      if q3.1 = (0 : Int32) then
        fX4_counts_4 g a0 i1 (i2 + (0 : Int32)) (i3 + (1 : Int32)) q3.2
      else
      fX4_counts_4 g a0 i1 (i2 + (1 : Int32)) (i3 + (1 : Int32)) q3.2
    else
    (fX4_sort a0 q2.2).bind fun q4 =>
    if q4.1 = (i1 - (2 : Int32)) then
      fX4_counts_4 g a0 i1 (i2 + (1 : Int32)) (i3 + (1 : Int32)) q4.2
    else
    fX4_counts_4 g a0 i1 (i2 + (0 : Int32)) (i3 + (1 : Int32)) q4.2
set_option maxRecDepth 20000 in
theorem pX4_counts_4 {K : KX} {cx : CX} {nn : Nat} {R9 : Int32 × XW} (B : XB K cx RX4 cX4_counts 4 nn 7 167) (hR : XR K cx nn (some .int) (some (.int R9.1)) R9.2) : ∀ (g : Nat) (a0 : Nat) (i1 : Int32) (i2 : Int32) (i3 : Int32) (w : XW), fX4_counts_4 g a0 i1 i2 i3 w = some R9 → Wx K cx 4 nn 4 [(0, .ref a0), (1, .int i1), (2, .int i2), (3, .int i3)] [] w := by
  intro g
  induction g with
  | zero =>
    intro a0 i1 i2 i3 w h
    exact absurd (show (none : Option (Int32 × XW)) = some R9 from h) (by simp)
  | succ g ih =>
    intro a0 i1 i2 i3 w h
    rw [fX4_counts_4] at h
    refine x_iload_n (pc := 4) B 3 dX4_counts_4 rfl rfl ?_
    refine x_sipush (pc := 5) B dX4_counts_5 xk_sipush_729 ?_
    rcases xite h with ⟨hc, h⟩ | ⟨hc, h⟩
    · refine x_icmp_ge_t (tgt := 66) (pc := 8) B dX4_counts_8 (by decide) hc ?_
      refine x_iload_n (pc := 66) B 2 dX4_counts_66 rfl rfl ?_
      exact x_iret (pc := 67) B hR dX4_counts_67 (xzI _) h
    · refine x_icmp_ge_f (pc := 8) B 66 dX4_counts_8 (by decide) hc ?_
      refine x_aload_n (pc := 11) B 0 dX4_counts_11 rfl rfl ?_
      refine x_iload_n (pc := 12) B 3 dX4_counts_12 rfl rfl ?_
      obtain ⟨q1, hq, h⟩ := xbind h
      refine x_callV0 (st := []) (pc := 13) B dX4_counts_13 (eX4_looksAt hq) xt_704 xt_58 np_X4_looksAt hy_X4_looksAt (Nat.le_of_ble_eq_true rfl) (Nat.le_of_ble_eq_true rfl) (Nat.le_of_ble_eq_true rfl) xt_703 xt_20 xt_701 rfl (iX4_looksAt hq) rfl ?_
      refine x_iload_n (pc := 16) B 2 dX4_counts_16 rfl rfl ?_
      refine x_aload_n (pc := 17) B 0 dX4_counts_17 rfl rfl ?_
      obtain ⟨q2, hq, h⟩ := xbind h
      refine x_callV1 (st := [.int i2]) (pc := 18) B dX4_counts_18 (eX4_holds hq) xt_708 xt_58 np_X4_holds hy_X4_holds (Nat.le_of_ble_eq_true rfl) (Nat.le_of_ble_eq_true rfl) (Nat.le_of_ble_eq_true rfl) xt_707 xt_21 xt_705 rfl (iX4_holds hq) rfl ?_
      rcases xite h with ⟨hc, h⟩ | ⟨hc, h⟩
      · refine x_if_eq_t (tgt := 57) (pc := 21) B dX4_counts_21 (by decide) hc ?_
        refine x_iconst (pc := 57) B dX4_counts_57 xk_iconst_0 ?_
        refine x_iadd (pc := 58) B dX4_counts_58 ?_
        refine x_istore_n (L1 := [(2, .int (i2 + (0 : Int32))), (0, .ref a0), (1, .int i1), (3, .int i3)]) (pc := 59) B dX4_counts_59 rfl (by decide) rfl ?_
        refine x_iinc (L1 := [(3, .int (i3 + (1 : Int32))), (2, .int (i2 + (0 : Int32))), (0, .ref a0), (1, .int i1)]) (pc := 60) B 3 dX4_counts_60 rfl (congrArg _ xk_iconst_1) (by decide) rfl ?_
        refine x_goto (tgt := 4) (pc := 63) B dX4_counts_63 (by decide) ?_
        refine x_sub (L1 := [(0, .ref a0), (1, .int i1), (2, .int (i2 + (0 : Int32))), (3, .int (i3 + (1 : Int32)))]) [2, 3, 1, 0] rfl ?_
        exact ih a0 i1 (i2 + (0 : Int32)) (i3 + (1 : Int32)) q2.2 h
      · refine x_if_eq_f (pc := 21) B 57 dX4_counts_21 (by decide) hc ?_
        refine x_iload_n (pc := 24) B 1 dX4_counts_24 rfl rfl ?_
        rcases xite h with ⟨hc, h⟩ | ⟨hc, h⟩
        · refine x_if_eq_t (tgt := 53) (pc := 25) B dX4_counts_25 (by decide) hc ?_
          refine x_iconst (pc := 53) B dX4_counts_53 xk_iconst_1 ?_
          refine x_goto (tgt := 58) (pc := 54) B dX4_counts_54 (by decide) ?_
          refine x_iadd (pc := 58) B dX4_counts_58 ?_
          refine x_istore_n (L1 := [(2, .int (i2 + (1 : Int32))), (0, .ref a0), (1, .int i1), (3, .int i3)]) (pc := 59) B dX4_counts_59 rfl (by decide) rfl ?_
          refine x_iinc (L1 := [(3, .int (i3 + (1 : Int32))), (2, .int (i2 + (1 : Int32))), (0, .ref a0), (1, .int i1)]) (pc := 60) B 3 dX4_counts_60 rfl (congrArg _ xk_iconst_1) (by decide) rfl ?_
          refine x_goto (tgt := 4) (pc := 63) B dX4_counts_63 (by decide) ?_
          refine x_sub (L1 := [(0, .ref a0), (1, .int i1), (2, .int (i2 + (1 : Int32))), (3, .int (i3 + (1 : Int32)))]) [2, 3, 1, 0] rfl ?_
          exact ih a0 i1 (i2 + (1 : Int32)) (i3 + (1 : Int32)) q2.2 h
        · refine x_if_eq_f (pc := 25) B 53 dX4_counts_25 (by decide) hc ?_
          refine x_iload_n (pc := 28) B 1 dX4_counts_28 rfl rfl ?_
          refine x_iconst (pc := 29) B dX4_counts_29 xk_iconst_1 ?_
          rcases xite h with ⟨hc, h⟩ | ⟨hc, h⟩
          · refine x_icmp_ne_f (pc := 30) B 43 dX4_counts_30 (by decide) hc ?_
            refine x_aload_n (pc := 33) B 0 dX4_counts_33 rfl rfl ?_
            obtain ⟨q3, hq, h⟩ := xbind h
            refine x_callV1 (st := [.int i2]) (pc := 34) B dX4_counts_34 (eX4_isRefined hq) xt_760 xt_58 np_X4_isRefined hy_X4_isRefined (Nat.le_of_ble_eq_true rfl) (Nat.le_of_ble_eq_true rfl) (Nat.le_of_ble_eq_true rfl) xt_759 xt_34 xt_757 rfl (iX4_isRefined hq) rfl ?_
            rcases xite h with ⟨hc, h⟩ | ⟨hc, h⟩
            · refine x_if_eq_t (tgt := 57) (pc := 37) B dX4_counts_37 (by decide) hc ?_
              refine x_iconst (pc := 57) B dX4_counts_57 xk_iconst_0 ?_
              refine x_iadd (pc := 58) B dX4_counts_58 ?_
              refine x_istore_n (L1 := [(2, .int (i2 + (0 : Int32))), (0, .ref a0), (1, .int i1), (3, .int i3)]) (pc := 59) B dX4_counts_59 rfl (by decide) rfl ?_
              refine x_iinc (L1 := [(3, .int (i3 + (1 : Int32))), (2, .int (i2 + (0 : Int32))), (0, .ref a0), (1, .int i1)]) (pc := 60) B 3 dX4_counts_60 rfl (congrArg _ xk_iconst_1) (by decide) rfl ?_
              refine x_goto (tgt := 4) (pc := 63) B dX4_counts_63 (by decide) ?_
              refine x_sub (L1 := [(0, .ref a0), (1, .int i1), (2, .int (i2 + (0 : Int32))), (3, .int (i3 + (1 : Int32)))]) [2, 3, 1, 0] rfl ?_
              exact ih a0 i1 (i2 + (0 : Int32)) (i3 + (1 : Int32)) q3.2 h
            · refine x_if_eq_f (pc := 37) B 57 dX4_counts_37 (by decide) hc ?_
              refine x_goto (tgt := 53) (pc := 40) B dX4_counts_40 (by decide) ?_
              refine x_iconst (pc := 53) B dX4_counts_53 xk_iconst_1 ?_
              refine x_goto (tgt := 58) (pc := 54) B dX4_counts_54 (by decide) ?_
              refine x_iadd (pc := 58) B dX4_counts_58 ?_
              refine x_istore_n (L1 := [(2, .int (i2 + (1 : Int32))), (0, .ref a0), (1, .int i1), (3, .int i3)]) (pc := 59) B dX4_counts_59 rfl (by decide) rfl ?_
              refine x_iinc (L1 := [(3, .int (i3 + (1 : Int32))), (2, .int (i2 + (1 : Int32))), (0, .ref a0), (1, .int i1)]) (pc := 60) B 3 dX4_counts_60 rfl (congrArg _ xk_iconst_1) (by decide) rfl ?_
              refine x_goto (tgt := 4) (pc := 63) B dX4_counts_63 (by decide) ?_
              refine x_sub (L1 := [(0, .ref a0), (1, .int i1), (2, .int (i2 + (1 : Int32))), (3, .int (i3 + (1 : Int32)))]) [2, 3, 1, 0] rfl ?_
              exact ih a0 i1 (i2 + (1 : Int32)) (i3 + (1 : Int32)) q3.2 h
          · refine x_icmp_ne_t (tgt := 43) (pc := 30) B dX4_counts_30 (by decide) hc ?_
            refine x_aload_n (pc := 43) B 0 dX4_counts_43 rfl rfl ?_
            obtain ⟨q4, hq, h⟩ := xbind h
            refine x_callV1 (st := [.int i2]) (pc := 44) B dX4_counts_44 (eX4_sort hq) xt_784 xt_58 np_X4_sort hy_X4_sort (Nat.le_of_ble_eq_true rfl) (Nat.le_of_ble_eq_true rfl) (Nat.le_of_ble_eq_true rfl) xt_783 xt_40 xt_781 rfl (iX4_sort hq) rfl ?_
            refine x_iload_n (pc := 47) B 1 dX4_counts_47 rfl rfl ?_
            refine x_iconst (pc := 48) B dX4_counts_48 xk_iconst_2 ?_
            refine x_isub (pc := 49) B dX4_counts_49 ?_
            rcases xite h with ⟨hc, h⟩ | ⟨hc, h⟩
            · refine x_icmp_ne_f (pc := 50) B 57 dX4_counts_50 (by decide) hc ?_
              refine x_iconst (pc := 53) B dX4_counts_53 xk_iconst_1 ?_
              refine x_goto (tgt := 58) (pc := 54) B dX4_counts_54 (by decide) ?_
              refine x_iadd (pc := 58) B dX4_counts_58 ?_
              refine x_istore_n (L1 := [(2, .int (i2 + (1 : Int32))), (0, .ref a0), (1, .int i1), (3, .int i3)]) (pc := 59) B dX4_counts_59 rfl (by decide) rfl ?_
              refine x_iinc (L1 := [(3, .int (i3 + (1 : Int32))), (2, .int (i2 + (1 : Int32))), (0, .ref a0), (1, .int i1)]) (pc := 60) B 3 dX4_counts_60 rfl (congrArg _ xk_iconst_1) (by decide) rfl ?_
              refine x_goto (tgt := 4) (pc := 63) B dX4_counts_63 (by decide) ?_
              refine x_sub (L1 := [(0, .ref a0), (1, .int i1), (2, .int (i2 + (1 : Int32))), (3, .int (i3 + (1 : Int32)))]) [2, 3, 1, 0] rfl ?_
              exact ih a0 i1 (i2 + (1 : Int32)) (i3 + (1 : Int32)) q4.2 h
            · refine x_icmp_ne_t (tgt := 57) (pc := 50) B dX4_counts_50 (by decide) hc ?_
              refine x_iconst (pc := 57) B dX4_counts_57 xk_iconst_0 ?_
              refine x_iadd (pc := 58) B dX4_counts_58 ?_
              refine x_istore_n (L1 := [(2, .int (i2 + (0 : Int32))), (0, .ref a0), (1, .int i1), (3, .int i3)]) (pc := 59) B dX4_counts_59 rfl (by decide) rfl ?_
              refine x_iinc (L1 := [(3, .int (i3 + (1 : Int32))), (2, .int (i2 + (0 : Int32))), (0, .ref a0), (1, .int i1)]) (pc := 60) B 3 dX4_counts_60 rfl (congrArg _ xk_iconst_1) (by decide) rfl ?_
              refine x_goto (tgt := 4) (pc := 63) B dX4_counts_63 (by decide) ?_
              refine x_sub (L1 := [(0, .ref a0), (1, .int i1), (2, .int (i2 + (0 : Int32))), (3, .int (i3 + (1 : Int32)))]) [2, 3, 1, 0] rfl ?_
              exact ih a0 i1 (i2 + (0 : Int32)) (i3 + (1 : Int32)) q4.2 h
def fX4_counts (a0 : Nat) (i1 : Int32) (w : XW) : Option (Int32 × XW) := if xis w a0 4 = true then
  fX4_counts_4 1000 a0 i1 (0 : Int32) (0 : Int32) w
  else none
theorem iX4_counts {a0 : Nat} {i1 : Int32} {w : XW} {R9 : (Int32 × XW)} (h : fX4_counts a0 i1 w = some R9) : xis w a0 4 = true := by
  unfold fX4_counts at h
  rcases xite h with ⟨hc, h⟩ | ⟨hc, h⟩
  · exact hc
  · exact absurd h (by simp)
theorem np_X4_counts : (parseMethodDescriptor yX4_counts.desc).map (fun d => d.parameters.length) = some 1 := by decide +kernel
theorem hy_X4_counts : yX4_counts.cls ≠ "java/lang/invoke/MethodHandle" ∧ yX4_counts.cls ≠ "java/lang/invoke/VarHandle" := ⟨by decide +kernel, by decide +kernel⟩
set_option maxRecDepth 20000 in
theorem eX4_counts {cx : CX} {a0 : Nat} {i1 : Int32} {w : XW} {R9 : (Int32 × XW)} (h : fX4_counts a0 i1 w = some R9) : Ct yX4_counts cX4_counts 4 (some .int) 7 167 cx [.ref a0, .int i1] w (some (.int R9.1)) R9.2 := by
  refine Ct_of (by decide +kernel) (Nat.le_of_ble_eq_true rfl) (fun K B hR => ?_)
  rw [fX4_counts] at h
  show Wx K cx 4 w.length 0 [(0, .ref a0), (1, .int i1)] [] w
  rcases xite h with ⟨hc, h⟩ | ⟨hc, h⟩
  · skip
    refine x_iconst (pc := 0) B dX4_counts_0 xk_iconst_0 ?_
    refine x_istore_n (L1 := [(2, .int (0 : Int32)), (0, .ref a0), (1, .int i1)]) (pc := 1) B dX4_counts_1 rfl (by decide) rfl ?_
    refine x_iconst (pc := 2) B dX4_counts_2 xk_iconst_0 ?_
    refine x_istore_n (L1 := [(3, .int (0 : Int32)), (2, .int (0 : Int32)), (0, .ref a0), (1, .int i1)]) (pc := 3) B dX4_counts_3 rfl (by decide) rfl ?_
    refine x_sub (L1 := [(0, .ref a0), (1, .int i1), (2, .int (0 : Int32)), (3, .int (0 : Int32))]) [2, 3, 1, 0] rfl ?_
    exact pX4_counts_4 B hR 1000 a0 i1 (0 : Int32) (0 : Int32) w h
  · exact absurd h (by simp)
def fX4_adopt_24 : Nat → Nat → Int32 → XW → Option (Int32 × XW)
  | 0, _, _, _ => none
  | g + 1, a0, i3, w =>
    if (6 : Int32) ≤ i3 then
      (fX4_counts a0 (0 : Int32) w).bind fun q4 =>
      some (q4.1, q4.2)
    else
    (xgR w a0 4 0).bind fun v5 =>
    (xgR w a0 4 10).bind fun v6 =>
    (xaI w v6 i3).bind fun v7 =>
    (xsI w v5 ((66 : Int32) + i3) v7).bind fun w8 =>
    fX4_adopt_24 g a0 (i3 + (1 : Int32)) w8
set_option maxRecDepth 20000 in
theorem pX4_adopt_24 {K : KX} {cx : CX} {nn : Nat} {R9 : Int32 × XW} (B : XB K cx RX4 cX4_adopt 4 nn 8 190) (hR : XR K cx nn (some .int) (some (.int R9.1)) R9.2) : ∀ (g : Nat) (a0 : Nat) (i3 : Int32) (w : XW), fX4_adopt_24 g a0 i3 w = some R9 → Wx K cx 4 nn 24 [(0, .ref a0), (3, .int i3)] [] w := by
  intro g
  induction g with
  | zero =>
    intro a0 i3 w h
    exact absurd (show (none : Option (Int32 × XW)) = some R9 from h) (by simp)
  | succ g ih =>
    intro a0 i3 w h
    rw [fX4_adopt_24] at h
    refine x_iload_n (pc := 24) B 1 dX4_adopt_24 rfl rfl ?_
    refine x_bipush (pc := 25) B dX4_adopt_25 xk_bipush_6 ?_
    rcases xite h with ⟨hc, h⟩ | ⟨hc, h⟩
    · refine x_icmp_ge_t (tgt := 51) (pc := 27) B dX4_adopt_27 (by decide) hc ?_
      refine x_aload_n (pc := 51) B 0 dX4_adopt_51 rfl rfl ?_
      refine x_iconst (pc := 52) B dX4_adopt_52 xk_iconst_0 ?_
      obtain ⟨q4, hq, h⟩ := xbind h
      refine x_callV1 (st := []) (pc := 53) B dX4_adopt_53 (eX4_counts hq) xt_756 xt_58 np_X4_counts hy_X4_counts (Nat.le_of_ble_eq_true rfl) (Nat.le_of_ble_eq_true rfl) (Nat.le_of_ble_eq_true rfl) xt_755 xt_33 xt_753 rfl (iX4_counts hq) rfl ?_
      exact x_iret (pc := 56) B hR dX4_adopt_56 (xzI _) h
    · refine x_icmp_ge_f (pc := 27) B 51 dX4_adopt_27 (by decide) hc ?_
      refine x_aload_n (pc := 30) B 0 dX4_adopt_30 rfl rfl ?_
      obtain ⟨v5, hv, h⟩ := xbind h
      refine x_getR (k0 := 0) (pc := 31) B dX4_adopt_31 rfl xi_4 (by decide) ⟨rfl, rfl, rfl⟩ xt_602 hv ?_
      refine x_bipush (pc := 34) B dX4_adopt_34 xk_bipush_66 ?_
      refine x_iload_n (pc := 36) B 1 dX4_adopt_36 rfl rfl ?_
      refine x_iadd (pc := 37) B dX4_adopt_37 ?_
      refine x_aload_n (pc := 38) B 0 dX4_adopt_38 rfl rfl ?_
      obtain ⟨v6, hv, h⟩ := xbind h
      refine x_getR (k0 := 10) (pc := 39) B dX4_adopt_39 rfl xi_4 (by decide) ⟨rfl, rfl, rfl⟩ xt_612 hv ?_
      refine x_iload_n (pc := 42) B 1 dX4_adopt_42 rfl rfl ?_
      obtain ⟨v7, hv, h⟩ := xbind h
      refine x_iald (pc := 43) B dX4_adopt_43 hv ?_
      obtain ⟨w8, hv, h⟩ := xbind h
      refine x_iast (pc := 44) B dX4_adopt_44 hv ?_
      refine x_iinc (L1 := [(3, .int (i3 + (1 : Int32))), (0, .ref a0)]) (pc := 45) B 1 dX4_adopt_45 rfl (congrArg _ xk_iconst_1) (by decide) rfl ?_
      refine x_goto (tgt := 24) (pc := 48) B dX4_adopt_48 (by decide) ?_
      refine x_sub (L1 := [(0, .ref a0), (3, .int (i3 + (1 : Int32)))]) [1, 0] rfl ?_
      exact ih a0 (i3 + (1 : Int32)) w8 h
def fX4_adopt (a0 : Nat) (i1 : Int32) (w : XW) : Option (Int32 × XW) := if xis w a0 4 = true then
  (fX4_codeAt a0 i1 w).bind fun q1 =>
  if q1.1 = (-1 : Int32) then
    some ((-1 : Int32), q1.2)
  else
  (fX4_records a0 q1.2).bind fun q2 =>
  (fX4_looksAt a0 q1.1 q2).bind fun q3 =>
  fX4_adopt_24 1000 a0 (0 : Int32) q3
  else none
theorem iX4_adopt {a0 : Nat} {i1 : Int32} {w : XW} {R9 : (Int32 × XW)} (h : fX4_adopt a0 i1 w = some R9) : xis w a0 4 = true := by
  unfold fX4_adopt at h
  rcases xite h with ⟨hc, h⟩ | ⟨hc, h⟩
  · exact hc
  · exact absurd h (by simp)
theorem np_X4_adopt : (parseMethodDescriptor yX4_adopt.desc).map (fun d => d.parameters.length) = some 1 := by decide +kernel
theorem hy_X4_adopt : yX4_adopt.cls ≠ "java/lang/invoke/MethodHandle" ∧ yX4_adopt.cls ≠ "java/lang/invoke/VarHandle" := ⟨by decide +kernel, by decide +kernel⟩
set_option maxRecDepth 20000 in
theorem eX4_adopt {cx : CX} {a0 : Nat} {i1 : Int32} {w : XW} {R9 : (Int32 × XW)} (h : fX4_adopt a0 i1 w = some R9) : Ct yX4_adopt cX4_adopt 4 (some .int) 8 190 cx [.ref a0, .int i1] w (some (.int R9.1)) R9.2 := by
  refine Ct_of (by decide +kernel) (Nat.le_of_ble_eq_true rfl) (fun K B hR => ?_)
  rw [fX4_adopt] at h
  show Wx K cx 4 w.length 0 [(0, .ref a0), (1, .int i1)] [] w
  rcases xite h with ⟨hc, h⟩ | ⟨hc, h⟩
  · skip
    refine x_aload_n (pc := 0) B 0 dX4_adopt_0 rfl rfl ?_
    refine x_iload_n (pc := 1) B 1 dX4_adopt_1 rfl rfl ?_
    obtain ⟨q1, hq, h⟩ := xbind h
    refine x_callV1 (st := []) (pc := 2) B dX4_adopt_2 (eX4_codeAt hq) xt_700 xt_58 np_X4_codeAt hy_X4_codeAt (Nat.le_of_ble_eq_true rfl) (Nat.le_of_ble_eq_true rfl) (Nat.le_of_ble_eq_true rfl) xt_699 xt_19 xt_697 rfl (iX4_codeAt hq) rfl ?_
    refine x_istore_n (L1 := [(2, .int q1.1), (0, .ref a0), (1, .int i1)]) (pc := 5) B dX4_adopt_5 rfl (by decide) rfl ?_
    refine x_iload_n (pc := 6) B 0 dX4_adopt_6 rfl rfl ?_
    refine x_iconst (pc := 7) B dX4_adopt_7 xk_iconst_m1 ?_
    rcases xite h with ⟨hc, h⟩ | ⟨hc, h⟩
    · refine x_icmp_ne_f (pc := 8) B 13 dX4_adopt_8 (by decide) hc ?_
      refine x_iconst (pc := 11) B dX4_adopt_11 xk_iconst_m1 ?_
      exact x_iret (pc := 12) B hR dX4_adopt_12 (xzI _) h
    · refine x_icmp_ne_t (tgt := 13) (pc := 8) B dX4_adopt_8 (by decide) hc ?_
      refine x_aload_n (pc := 13) B 1 dX4_adopt_13 rfl rfl ?_
      obtain ⟨q2, hq, h⟩ := xbind h
      refine x_callV0 (st := []) (pc := 14) B dX4_adopt_14 (eX4_records hq) xt_651 xt_58 np_X4_records hy_X4_records (Nat.le_of_ble_eq_true rfl) (Nat.le_of_ble_eq_true rfl) (Nat.le_of_ble_eq_true rfl) xt_650 xt_15 xt_648 rfl (iX4_records hq) rfl ?_
      refine x_aload_n (pc := 17) B 1 dX4_adopt_17 rfl rfl ?_
      refine x_iload_n (pc := 18) B 0 dX4_adopt_18 rfl rfl ?_
      obtain ⟨q3, hq, h⟩ := xbind h
      refine x_callV0 (st := []) (pc := 19) B dX4_adopt_19 (eX4_looksAt hq) xt_704 xt_58 np_X4_looksAt hy_X4_looksAt (Nat.le_of_ble_eq_true rfl) (Nat.le_of_ble_eq_true rfl) (Nat.le_of_ble_eq_true rfl) xt_703 xt_20 xt_701 rfl (iX4_looksAt hq) rfl ?_
      refine x_iconst (pc := 22) B dX4_adopt_22 xk_iconst_0 ?_
      refine x_istore_n (L1 := [(3, .int (0 : Int32)), (2, .int q1.1), (0, .ref a0), (1, .int i1)]) (pc := 23) B dX4_adopt_23 rfl (by decide) rfl ?_
      refine x_sub (L1 := [(0, .ref a0), (3, .int (0 : Int32))]) [2, 0] rfl ?_
      exact pX4_adopt_24 B hR 1000 a0 (0 : Int32) q3 h
  · exact absurd h (by simp)
def fX4_plans (a0 : Nat) (i1 : Int32) (w : XW) : Option (Int32 × XW) := if xis w a0 4 = true then
  (fX4_in i1 (0 : Int32) (4 : Int32) w).bind fun q1 =>
  if q1.1 = (0 : Int32) then
    some ((-2 : Int32), q1.2)
  else
  (fX4_counts a0 i1 q1.2).bind fun q2 =>
  some (q2.1, q2.2)
  else none
theorem iX4_plans {a0 : Nat} {i1 : Int32} {w : XW} {R9 : (Int32 × XW)} (h : fX4_plans a0 i1 w = some R9) : xis w a0 4 = true := by
  unfold fX4_plans at h
  rcases xite h with ⟨hc, h⟩ | ⟨hc, h⟩
  · exact hc
  · exact absurd h (by simp)
theorem np_X4_plans : (parseMethodDescriptor yX4_plans.desc).map (fun d => d.parameters.length) = some 1 := by decide +kernel
theorem hy_X4_plans : yX4_plans.cls ≠ "java/lang/invoke/MethodHandle" ∧ yX4_plans.cls ≠ "java/lang/invoke/VarHandle" := ⟨by decide +kernel, by decide +kernel⟩
set_option maxRecDepth 20000 in
theorem eX4_plans {cx : CX} {a0 : Nat} {i1 : Int32} {w : XW} {R9 : (Int32 × XW)} (h : fX4_plans a0 i1 w = some R9) : Ct yX4_plans cX4_plans 2 (some .int) 8 190 cx [.ref a0, .int i1] w (some (.int R9.1)) R9.2 := by
  refine Ct_of (by decide +kernel) (Nat.le_of_ble_eq_true rfl) (fun K B hR => ?_)
  rw [fX4_plans] at h
  show Wx K cx 2 w.length 0 [(0, .ref a0), (1, .int i1)] [] w
  rcases xite h with ⟨hc, h⟩ | ⟨hc, h⟩
  · skip
    refine x_iload_n (pc := 0) B 1 dX4_plans_0 rfl rfl ?_
    refine x_iconst (pc := 1) B dX4_plans_1 xk_iconst_0 ?_
    refine x_iconst (pc := 2) B dX4_plans_2 xk_iconst_4 ?_
    obtain ⟨q1, hq, h⟩ := xbind h
    refine x_callS1 (st := []) (pc := 3) B dX4_plans_3 (eX4_in hq) xt_639 xt_58 np_X4_in hy_X4_in (Nat.le_of_ble_eq_true rfl) (Nat.le_of_ble_eq_true rfl) (Nat.le_of_ble_eq_true rfl) xt_638 xt_637 rfl ?_
    rcases xite h with ⟨hc, h⟩ | ⟨hc, h⟩
    · refine x_if_eq_t (tgt := 17) (pc := 6) B dX4_plans_6 (by decide) hc ?_
      refine x_bipush (pc := 17) B dX4_plans_17 xk_bipush_m2 ?_
      exact x_iret (pc := 19) B hR dX4_plans_19 (xzI _) h
    · refine x_if_eq_f (pc := 6) B 17 dX4_plans_6 (by decide) hc ?_
      refine x_aload_n (pc := 9) B 0 dX4_plans_9 rfl rfl ?_
      refine x_iload_n (pc := 10) B 1 dX4_plans_10 rfl rfl ?_
      obtain ⟨q2, hq, h⟩ := xbind h
      refine x_callV1 (st := []) (pc := 11) B dX4_plans_11 (eX4_counts hq) xt_756 xt_58 np_X4_counts hy_X4_counts (Nat.le_of_ble_eq_true rfl) (Nat.le_of_ble_eq_true rfl) (Nat.le_of_ble_eq_true rfl) xt_755 xt_33 xt_753 rfl (iX4_counts hq) rfl ?_
      refine x_goto (tgt := 19) (pc := 14) B dX4_plans_14 (by decide) ?_
      exact x_iret (pc := 19) B hR dX4_plans_19 (xzI _) h
  · exact absurd h (by simp)
def fX4_planAt (a0 : Nat) (i1 : Int32) (w : XW) : Option (Int32 × XW) := if xis w a0 4 = true then
  (fX4_codeAt a0 i1 w).bind fun q1 =>
  some (q1.1, q1.2)
  else none
theorem iX4_planAt {a0 : Nat} {i1 : Int32} {w : XW} {R9 : (Int32 × XW)} (h : fX4_planAt a0 i1 w = some R9) : xis w a0 4 = true := by
  unfold fX4_planAt at h
  rcases xite h with ⟨hc, h⟩ | ⟨hc, h⟩
  · exact hc
  · exact absurd h (by simp)
theorem np_X4_planAt : (parseMethodDescriptor yX4_planAt.desc).map (fun d => d.parameters.length) = some 1 := by decide +kernel
theorem hy_X4_planAt : yX4_planAt.cls ≠ "java/lang/invoke/MethodHandle" ∧ yX4_planAt.cls ≠ "java/lang/invoke/VarHandle" := ⟨by decide +kernel, by decide +kernel⟩
set_option maxRecDepth 20000 in
theorem eX4_planAt {cx : CX} {a0 : Nat} {i1 : Int32} {w : XW} {R9 : (Int32 × XW)} (h : fX4_planAt a0 i1 w = some R9) : Ct yX4_planAt cX4_planAt 2 (some .int) 7 157 cx [.ref a0, .int i1] w (some (.int R9.1)) R9.2 := by
  refine Ct_of (by decide +kernel) (Nat.le_of_ble_eq_true rfl) (fun K B hR => ?_)
  rw [fX4_planAt] at h
  show Wx K cx 2 w.length 0 [(0, .ref a0), (1, .int i1)] [] w
  rcases xite h with ⟨hc, h⟩ | ⟨hc, h⟩
  · skip
    refine x_aload_n (pc := 0) B 0 dX4_planAt_0 rfl rfl ?_
    refine x_iload_n (pc := 1) B 1 dX4_planAt_1 rfl rfl ?_
    obtain ⟨q1, hq, h⟩ := xbind h
    refine x_callV1 (st := []) (pc := 2) B dX4_planAt_2 (eX4_codeAt hq) xt_700 xt_58 np_X4_codeAt hy_X4_codeAt (Nat.le_of_ble_eq_true rfl) (Nat.le_of_ble_eq_true rfl) (Nat.le_of_ble_eq_true rfl) xt_699 xt_19 xt_697 rfl (iX4_codeAt hq) rfl ?_
    exact x_iret (pc := 5) B hR dX4_planAt_5 (xzI _) h
  · exact absurd h (by simp)
def fX4_receives_4 : Nat → Nat → Int32 → Int32 → XW → Option (Int32 × XW)
  | 0, _, _, _, _ => none
  | g + 1, a0, i1, i2, w =>
    if (3 : Int32) ≤ i2 then
      some (i1, w)
    else
    (xgR w a0 4 0).bind fun v1 =>
    (xaI w v1 i2).bind fun v2 =>
    (xgR w a0 4 0).bind fun v3 =>
    (xgR w a0 4 10).bind fun v4 =>
    (xaI w v4 i2).bind fun v5 =>
    (xgR w a0 4 10).bind fun v6 =>
    (xgR w a0 4 10).bind fun v7 =>
    (xaI w v7 i2).bind fun v8 =>
    (xaI w v6 ((3 : Int32) + v8)).bind fun v9 =>
    (fX4_place (1 : Int32) i2 v5 v9 w).bind fun q10 =>
    (xaI q10.2 v3 q10.1).bind fun v11 =>
    fX4_receives_4 g a0 (i1 + (v2 * v11)) (i2 + (1 : Int32)) q10.2
set_option maxRecDepth 20000 in
theorem pX4_receives_4 {K : KX} {cx : CX} {nn : Nat} {R9 : Int32 × XW} (B : XB K cx RX4 cX4_receives 3 nn 1 23) (hR : XR K cx nn (some .int) (some (.int R9.1)) R9.2) : ∀ (g : Nat) (a0 : Nat) (i1 : Int32) (i2 : Int32) (w : XW), fX4_receives_4 g a0 i1 i2 w = some R9 → Wx K cx 3 nn 4 [(0, .ref a0), (1, .int i1), (2, .int i2)] [] w := by
  intro g
  induction g with
  | zero =>
    intro a0 i1 i2 w h
    exact absurd (show (none : Option (Int32 × XW)) = some R9 from h) (by simp)
  | succ g ih =>
    intro a0 i1 i2 w h
    rw [fX4_receives_4] at h
    refine x_iload_n (pc := 4) B 2 dX4_receives_4 rfl rfl ?_
    refine x_iconst (pc := 5) B dX4_receives_5 xk_iconst_3 ?_
    rcases xite h with ⟨hc, h⟩ | ⟨hc, h⟩
    · refine x_icmp_ge_t (tgt := 54) (pc := 6) B dX4_receives_6 (by decide) hc ?_
      refine x_iload_n (pc := 54) B 1 dX4_receives_54 rfl rfl ?_
      exact x_iret (pc := 55) B hR dX4_receives_55 (xzI _) h
    · refine x_icmp_ge_f (pc := 6) B 54 dX4_receives_6 (by decide) hc ?_
      refine x_iload_n (pc := 9) B 1 dX4_receives_9 rfl rfl ?_
      refine x_aload_n (pc := 10) B 0 dX4_receives_10 rfl rfl ?_
      obtain ⟨v1, hv, h⟩ := xbind h
      refine x_getR (k0 := 0) (pc := 11) B dX4_receives_11 rfl xi_4 (by decide) ⟨rfl, rfl, rfl⟩ xt_602 hv ?_
      refine x_iload_n (pc := 14) B 2 dX4_receives_14 rfl rfl ?_
      obtain ⟨v2, hv, h⟩ := xbind h
      refine x_iald (pc := 15) B dX4_receives_15 hv ?_
      refine x_aload_n (pc := 16) B 0 dX4_receives_16 rfl rfl ?_
      obtain ⟨v3, hv, h⟩ := xbind h
      refine x_getR (k0 := 0) (pc := 17) B dX4_receives_17 rfl xi_4 (by decide) ⟨rfl, rfl, rfl⟩ xt_602 hv ?_
      refine x_iconst (pc := 20) B dX4_receives_20 xk_iconst_1 ?_
      refine x_iload_n (pc := 21) B 2 dX4_receives_21 rfl rfl ?_
      refine x_aload_n (pc := 22) B 0 dX4_receives_22 rfl rfl ?_
      obtain ⟨v4, hv, h⟩ := xbind h
      refine x_getR (k0 := 10) (pc := 23) B dX4_receives_23 rfl xi_4 (by decide) ⟨rfl, rfl, rfl⟩ xt_612 hv ?_
      refine x_iload_n (pc := 26) B 2 dX4_receives_26 rfl rfl ?_
      obtain ⟨v5, hv, h⟩ := xbind h
      refine x_iald (pc := 27) B dX4_receives_27 hv ?_
      refine x_aload_n (pc := 28) B 0 dX4_receives_28 rfl rfl ?_
      obtain ⟨v6, hv, h⟩ := xbind h
      refine x_getR (k0 := 10) (pc := 29) B dX4_receives_29 rfl xi_4 (by decide) ⟨rfl, rfl, rfl⟩ xt_612 hv ?_
      refine x_iconst (pc := 32) B dX4_receives_32 xk_iconst_3 ?_
      refine x_aload_n (pc := 33) B 0 dX4_receives_33 rfl rfl ?_
      obtain ⟨v7, hv, h⟩ := xbind h
      refine x_getR (k0 := 10) (pc := 34) B dX4_receives_34 rfl xi_4 (by decide) ⟨rfl, rfl, rfl⟩ xt_612 hv ?_
      refine x_iload_n (pc := 37) B 2 dX4_receives_37 rfl rfl ?_
      obtain ⟨v8, hv, h⟩ := xbind h
      refine x_iald (pc := 38) B dX4_receives_38 hv ?_
      refine x_iadd (pc := 39) B dX4_receives_39 ?_
      obtain ⟨v9, hv, h⟩ := xbind h
      refine x_iald (pc := 40) B dX4_receives_40 hv ?_
      obtain ⟨q10, hq, h⟩ := xbind h
      refine x_callS1 (st := [.ref v3, .int v2, .int i1]) (pc := 41) B dX4_receives_41 (eX4_place hq) xt_676 xt_58 np_X4_place hy_X4_place (Nat.le_of_ble_eq_true rfl) (Nat.le_of_ble_eq_true rfl) (Nat.le_of_ble_eq_true rfl) xt_675 xt_674 rfl ?_
      obtain ⟨v11, hv, h⟩ := xbind h
      refine x_iald (pc := 44) B dX4_receives_44 hv ?_
      refine x_imul (pc := 45) B dX4_receives_45 ?_
      refine x_iadd (pc := 46) B dX4_receives_46 ?_
      refine x_istore_n (L1 := [(1, .int (i1 + (v2 * v11))), (0, .ref a0), (2, .int i2)]) (pc := 47) B dX4_receives_47 rfl (by decide) rfl ?_
      refine x_iinc (L1 := [(2, .int (i2 + (1 : Int32))), (1, .int (i1 + (v2 * v11))), (0, .ref a0)]) (pc := 48) B 2 dX4_receives_48 rfl (congrArg _ xk_iconst_1) (by decide) rfl ?_
      refine x_goto (tgt := 4) (pc := 51) B dX4_receives_51 (by decide) ?_
      refine x_sub (L1 := [(0, .ref a0), (1, .int (i1 + (v2 * v11))), (2, .int (i2 + (1 : Int32)))]) [2, 1, 0] rfl ?_
      exact ih a0 (i1 + (v2 * v11)) (i2 + (1 : Int32)) q10.2 h
def fX4_receives (a0 : Nat) (w : XW) : Option (Int32 × XW) := if xis w a0 4 = true then
  fX4_receives_4 1000 a0 (0 : Int32) (0 : Int32) w
  else none
theorem iX4_receives {a0 : Nat} {w : XW} {R9 : (Int32 × XW)} (h : fX4_receives a0 w = some R9) : xis w a0 4 = true := by
  unfold fX4_receives at h
  rcases xite h with ⟨hc, h⟩ | ⟨hc, h⟩
  · exact hc
  · exact absurd h (by simp)
theorem np_X4_receives : (parseMethodDescriptor yX4_receives.desc).map (fun d => d.parameters.length) = some 0 := by decide +kernel
theorem hy_X4_receives : yX4_receives.cls ≠ "java/lang/invoke/MethodHandle" ∧ yX4_receives.cls ≠ "java/lang/invoke/VarHandle" := ⟨by decide +kernel, by decide +kernel⟩
set_option maxRecDepth 20000 in
theorem eX4_receives {cx : CX} {a0 : Nat} {w : XW} {R9 : (Int32 × XW)} (h : fX4_receives a0 w = some R9) : Ct yX4_receives cX4_receives 3 (some .int) 1 23 cx [.ref a0] w (some (.int R9.1)) R9.2 := by
  refine Ct_of (by decide +kernel) (Nat.le_of_ble_eq_true rfl) (fun K B hR => ?_)
  rw [fX4_receives] at h
  show Wx K cx 3 w.length 0 [(0, .ref a0)] [] w
  rcases xite h with ⟨hc, h⟩ | ⟨hc, h⟩
  · skip
    refine x_iconst (pc := 0) B dX4_receives_0 xk_iconst_0 ?_
    refine x_istore_n (L1 := [(1, .int (0 : Int32)), (0, .ref a0)]) (pc := 1) B dX4_receives_1 rfl (by decide) rfl ?_
    refine x_iconst (pc := 2) B dX4_receives_2 xk_iconst_0 ?_
    refine x_istore_n (L1 := [(2, .int (0 : Int32)), (1, .int (0 : Int32)), (0, .ref a0)]) (pc := 3) B dX4_receives_3 rfl (by decide) rfl ?_
    refine x_sub (L1 := [(0, .ref a0), (1, .int (0 : Int32)), (2, .int (0 : Int32))]) [2, 1, 0] rfl ?_
    exact pX4_receives_4 B hR 1000 a0 (0 : Int32) (0 : Int32) w h
  · exact absurd h (by simp)
def fX4_bestPlan_20 : Nat → Nat → Int32 → Int32 → Int32 → Int32 → XW → Option (Int32 × XW)
  | 0, _, _, _, _, _, _ => none
  | g + 1, a0, i1, i2, i3, i4, w =>
    if (729 : Int32) ≤ i4 then
      if i1 = (0 : Int32) then
        some (i2, w)
      else
      if i2 = (-6 : Int32) then
        some (i2, w)
      else
      some ((i3 + (1000 : Int32)), w)
    else
    (fX4_looksAt a0 i4 w).bind fun q2 =>
    (fX4_holds a0 q2).bind fun q3 =>
    if q3.1 = (0 : Int32) then
      fX4_bestPlan_20 g a0 i1 i2 i3 (i4 + (1 : Int32)) q3.2
    else
    if i2 = (-6 : Int32) then
      (fX4_receives a0 q3.2).bind fun q4 =>
      fX4_bestPlan_20 g a0 i1 i4 q4.1 (i4 + (1 : Int32)) q4.2
    else
    (fX4_receives a0 q3.2).bind fun q5 =>
    if q5.1 ≤ i3 then
      fX4_bestPlan_20 g a0 i1 i2 i3 (i4 + (1 : Int32)) q5.2
    else
    (fX4_receives a0 q5.2).bind fun q6 =>
    fX4_bestPlan_20 g a0 i1 i4 q6.1 (i4 + (1 : Int32)) q6.2
set_option maxRecDepth 20000 in
theorem pX4_bestPlan_20 {K : KX} {cx : CX} {nn : Nat} {R9 : Int32 × XW} (B : XB K cx RX4 cX4_bestPlan 5 nn 6 134) (hR : XR K cx nn (some .int) (some (.int R9.1)) R9.2) : ∀ (g : Nat) (a0 : Nat) (i1 : Int32) (i2 : Int32) (i3 : Int32) (i4 : Int32) (w : XW), fX4_bestPlan_20 g a0 i1 i2 i3 i4 w = some R9 → Wx K cx 5 nn 20 [(0, .ref a0), (1, .int i1), (2, .int i2), (3, .int i3), (4, .int i4)] [] w := by
  intro g
  induction g with
  | zero =>
    intro a0 i1 i2 i3 i4 w h
    exact absurd (show (none : Option (Int32 × XW)) = some R9 from h) (by simp)
  | succ g ih =>
    intro a0 i1 i2 i3 i4 w h
    rw [fX4_bestPlan_20] at h
    refine x_iload (pc := 20) B 4 dX4_bestPlan_20 rfl ?_
    refine x_sipush (pc := 22) B dX4_bestPlan_22 xk_sipush_729 ?_
    rcases xite h with ⟨hc, h⟩ | ⟨hc, h⟩
    · refine x_icmp_ge_t (tgt := 69) (pc := 25) B dX4_bestPlan_25 (by decide) hc ?_
      refine x_iload_n (pc := 69) B 1 dX4_bestPlan_69 rfl rfl ?_
      rcases xite h with ⟨hc, h⟩ | ⟨hc, h⟩
      · refine x_if_eq_t (tgt := 79) (pc := 70) B dX4_bestPlan_70 (by decide) hc ?_
        refine x_iload_n (pc := 79) B 2 dX4_bestPlan_79 rfl rfl ?_
        refine x_goto (tgt := 88) (pc := 80) B dX4_bestPlan_80 (by decide) ?_
        exact x_iret (pc := 88) B hR dX4_bestPlan_88 (xzI _) h
      · refine x_if_eq_f (pc := 70) B 79 dX4_bestPlan_70 (by decide) hc ?_
        refine x_iload_n (pc := 73) B 2 dX4_bestPlan_73 rfl rfl ?_
        refine x_bipush (pc := 74) B dX4_bestPlan_74 xk_bipush_m6 ?_
        rcases xite h with ⟨hc, h⟩ | ⟨hc, h⟩
        · refine x_icmp_ne_f (pc := 76) B 83 dX4_bestPlan_76 (by decide) hc ?_
          refine x_iload_n (pc := 79) B 2 dX4_bestPlan_79 rfl rfl ?_
          refine x_goto (tgt := 88) (pc := 80) B dX4_bestPlan_80 (by decide) ?_
          exact x_iret (pc := 88) B hR dX4_bestPlan_88 (xzI _) h
        · refine x_icmp_ne_t (tgt := 83) (pc := 76) B dX4_bestPlan_76 (by decide) hc ?_
          refine x_iload_n (pc := 83) B 3 dX4_bestPlan_83 rfl rfl ?_
          refine x_sipush (pc := 84) B dX4_bestPlan_84 xk_sipush_1000 ?_
          refine x_iadd (pc := 87) B dX4_bestPlan_87 ?_
          exact x_iret (pc := 88) B hR dX4_bestPlan_88 (xzI _) h
    · refine x_icmp_ge_f (pc := 25) B 69 dX4_bestPlan_25 (by decide) hc ?_
      refine x_aload_n (pc := 28) B 0 dX4_bestPlan_28 rfl rfl ?_
      refine x_iload (pc := 29) B 4 dX4_bestPlan_29 rfl ?_
      obtain ⟨q2, hq, h⟩ := xbind h
      refine x_callV0 (st := []) (pc := 31) B dX4_bestPlan_31 (eX4_looksAt hq) xt_704 xt_58 np_X4_looksAt hy_X4_looksAt (Nat.le_of_ble_eq_true rfl) (Nat.le_of_ble_eq_true rfl) (Nat.le_of_ble_eq_true rfl) xt_703 xt_20 xt_701 rfl (iX4_looksAt hq) rfl ?_
      refine x_aload_n (pc := 34) B 0 dX4_bestPlan_34 rfl rfl ?_
      obtain ⟨q3, hq, h⟩ := xbind h
      refine x_callV1 (st := []) (pc := 35) B dX4_bestPlan_35 (eX4_holds hq) xt_708 xt_58 np_X4_holds hy_X4_holds (Nat.le_of_ble_eq_true rfl) (Nat.le_of_ble_eq_true rfl) (Nat.le_of_ble_eq_true rfl) xt_707 xt_21 xt_705 rfl (iX4_holds hq) rfl ?_
      rcases xite h with ⟨hc, h⟩ | ⟨hc, h⟩
      · refine x_if_eq_t (tgt := 63) (pc := 38) B dX4_bestPlan_38 (by decide) hc ?_
        refine x_iinc (L1 := [(4, .int (i4 + (1 : Int32))), (0, .ref a0), (1, .int i1), (2, .int i2), (3, .int i3)]) (pc := 63) B 4 dX4_bestPlan_63 rfl (congrArg _ xk_iconst_1) (by decide) rfl ?_
        refine x_goto (tgt := 20) (pc := 66) B dX4_bestPlan_66 (by decide) ?_
        refine x_sub (L1 := [(0, .ref a0), (1, .int i1), (2, .int i2), (3, .int i3), (4, .int (i4 + (1 : Int32)))]) [1, 2, 3, 4, 0] rfl ?_
        exact ih a0 i1 i2 i3 (i4 + (1 : Int32)) q3.2 h
      · refine x_if_eq_f (pc := 38) B 63 dX4_bestPlan_38 (by decide) hc ?_
        refine x_iload_n (pc := 41) B 2 dX4_bestPlan_41 rfl rfl ?_
        refine x_bipush (pc := 42) B dX4_bestPlan_42 xk_bipush_m6 ?_
        rcases xite h with ⟨hc, h⟩ | ⟨hc, h⟩
        · refine x_icmp_eq_t (tgt := 55) (pc := 44) B dX4_bestPlan_44 (by decide) hc ?_
          refine x_iload (pc := 55) B 4 dX4_bestPlan_55 rfl ?_
          refine x_istore_n (L1 := [(2, .int i4), (0, .ref a0), (1, .int i1), (3, .int i3), (4, .int i4)]) (pc := 57) B dX4_bestPlan_57 rfl (by decide) rfl ?_
          refine x_aload_n (pc := 58) B 1 dX4_bestPlan_58 rfl rfl ?_
          obtain ⟨q4, hq, h⟩ := xbind h
          refine x_callV1 (st := []) (pc := 59) B dX4_bestPlan_59 (eX4_receives hq) xt_800 xt_58 np_X4_receives hy_X4_receives (Nat.le_of_ble_eq_true rfl) (Nat.le_of_ble_eq_true rfl) (Nat.le_of_ble_eq_true rfl) xt_799 xt_41 xt_797 rfl (iX4_receives hq) rfl ?_
          refine x_istore_n (L1 := [(3, .int q4.1), (2, .int i4), (0, .ref a0), (1, .int i1), (4, .int i4)]) (pc := 62) B dX4_bestPlan_62 rfl (by decide) rfl ?_
          refine x_iinc (L1 := [(4, .int (i4 + (1 : Int32))), (3, .int q4.1), (2, .int i4), (0, .ref a0), (1, .int i1)]) (pc := 63) B 4 dX4_bestPlan_63 rfl (congrArg _ xk_iconst_1) (by decide) rfl ?_
          refine x_goto (tgt := 20) (pc := 66) B dX4_bestPlan_66 (by decide) ?_
          refine x_sub (L1 := [(0, .ref a0), (1, .int i1), (2, .int i4), (3, .int q4.1), (4, .int (i4 + (1 : Int32)))]) [3, 4, 2, 1, 0] rfl ?_
          exact ih a0 i1 i4 q4.1 (i4 + (1 : Int32)) q4.2 h
        · refine x_icmp_eq_f (pc := 44) B 55 dX4_bestPlan_44 (by decide) hc ?_
          refine x_aload_n (pc := 47) B 0 dX4_bestPlan_47 rfl rfl ?_
          obtain ⟨q5, hq, h⟩ := xbind h
          refine x_callV1 (st := []) (pc := 48) B dX4_bestPlan_48 (eX4_receives hq) xt_800 xt_58 np_X4_receives hy_X4_receives (Nat.le_of_ble_eq_true rfl) (Nat.le_of_ble_eq_true rfl) (Nat.le_of_ble_eq_true rfl) xt_799 xt_41 xt_797 rfl (iX4_receives hq) rfl ?_
          refine x_iload_n (pc := 51) B 3 dX4_bestPlan_51 rfl rfl ?_
          rcases xite h with ⟨hc, h⟩ | ⟨hc, h⟩
          · refine x_icmp_le_t (tgt := 63) (pc := 52) B dX4_bestPlan_52 (by decide) hc ?_
            refine x_iinc (L1 := [(4, .int (i4 + (1 : Int32))), (0, .ref a0), (1, .int i1), (2, .int i2), (3, .int i3)]) (pc := 63) B 4 dX4_bestPlan_63 rfl (congrArg _ xk_iconst_1) (by decide) rfl ?_
            refine x_goto (tgt := 20) (pc := 66) B dX4_bestPlan_66 (by decide) ?_
            refine x_sub (L1 := [(0, .ref a0), (1, .int i1), (2, .int i2), (3, .int i3), (4, .int (i4 + (1 : Int32)))]) [1, 2, 3, 4, 0] rfl ?_
            exact ih a0 i1 i2 i3 (i4 + (1 : Int32)) q5.2 h
          · refine x_icmp_le_f (pc := 52) B 63 dX4_bestPlan_52 (by decide) hc ?_
            refine x_iload (pc := 55) B 4 dX4_bestPlan_55 rfl ?_
            refine x_istore_n (L1 := [(2, .int i4), (0, .ref a0), (1, .int i1), (3, .int i3), (4, .int i4)]) (pc := 57) B dX4_bestPlan_57 rfl (by decide) rfl ?_
            refine x_aload_n (pc := 58) B 1 dX4_bestPlan_58 rfl rfl ?_
            obtain ⟨q6, hq, h⟩ := xbind h
            refine x_callV1 (st := []) (pc := 59) B dX4_bestPlan_59 (eX4_receives hq) xt_800 xt_58 np_X4_receives hy_X4_receives (Nat.le_of_ble_eq_true rfl) (Nat.le_of_ble_eq_true rfl) (Nat.le_of_ble_eq_true rfl) xt_799 xt_41 xt_797 rfl (iX4_receives hq) rfl ?_
            refine x_istore_n (L1 := [(3, .int q6.1), (2, .int i4), (0, .ref a0), (1, .int i1), (4, .int i4)]) (pc := 62) B dX4_bestPlan_62 rfl (by decide) rfl ?_
            refine x_iinc (L1 := [(4, .int (i4 + (1 : Int32))), (3, .int q6.1), (2, .int i4), (0, .ref a0), (1, .int i1)]) (pc := 63) B 4 dX4_bestPlan_63 rfl (congrArg _ xk_iconst_1) (by decide) rfl ?_
            refine x_goto (tgt := 20) (pc := 66) B dX4_bestPlan_66 (by decide) ?_
            refine x_sub (L1 := [(0, .ref a0), (1, .int i1), (2, .int i4), (3, .int q6.1), (4, .int (i4 + (1 : Int32)))]) [3, 4, 2, 1, 0] rfl ?_
            exact ih a0 i1 i4 q6.1 (i4 + (1 : Int32)) q6.2 h
def fX4_bestPlan (a0 : Nat) (i1 : Int32) (w : XW) : Option (Int32 × XW) := if xis w a0 4 = true then
  (fX4_in i1 (0 : Int32) (1 : Int32) w).bind fun q1 =>
  if q1.1 = (0 : Int32) then
    some ((-2 : Int32), q1.2)
  else
  fX4_bestPlan_20 1000 a0 i1 (-6 : Int32) (0 : Int32) (0 : Int32) q1.2
  else none
theorem iX4_bestPlan {a0 : Nat} {i1 : Int32} {w : XW} {R9 : (Int32 × XW)} (h : fX4_bestPlan a0 i1 w = some R9) : xis w a0 4 = true := by
  unfold fX4_bestPlan at h
  rcases xite h with ⟨hc, h⟩ | ⟨hc, h⟩
  · exact hc
  · exact absurd h (by simp)
theorem np_X4_bestPlan : (parseMethodDescriptor yX4_bestPlan.desc).map (fun d => d.parameters.length) = some 1 := by decide +kernel
theorem hy_X4_bestPlan : yX4_bestPlan.cls ≠ "java/lang/invoke/MethodHandle" ∧ yX4_bestPlan.cls ≠ "java/lang/invoke/VarHandle" := ⟨by decide +kernel, by decide +kernel⟩
set_option maxRecDepth 20000 in
theorem eX4_bestPlan {cx : CX} {a0 : Nat} {i1 : Int32} {w : XW} {R9 : (Int32 × XW)} (h : fX4_bestPlan a0 i1 w = some R9) : Ct yX4_bestPlan cX4_bestPlan 5 (some .int) 6 134 cx [.ref a0, .int i1] w (some (.int R9.1)) R9.2 := by
  refine Ct_of (by decide +kernel) (Nat.le_of_ble_eq_true rfl) (fun K B hR => ?_)
  rw [fX4_bestPlan] at h
  show Wx K cx 5 w.length 0 [(0, .ref a0), (1, .int i1)] [] w
  rcases xite h with ⟨hc, h⟩ | ⟨hc, h⟩
  · skip
    refine x_iload_n (pc := 0) B 1 dX4_bestPlan_0 rfl rfl ?_
    refine x_iconst (pc := 1) B dX4_bestPlan_1 xk_iconst_0 ?_
    refine x_iconst (pc := 2) B dX4_bestPlan_2 xk_iconst_1 ?_
    obtain ⟨q1, hq, h⟩ := xbind h
    refine x_callS1 (st := []) (pc := 3) B dX4_bestPlan_3 (eX4_in hq) xt_639 xt_58 np_X4_in hy_X4_in (Nat.le_of_ble_eq_true rfl) (Nat.le_of_ble_eq_true rfl) (Nat.le_of_ble_eq_true rfl) xt_638 xt_637 rfl ?_
    rcases xite h with ⟨hc, h⟩ | ⟨hc, h⟩
    · refine x_if_ne_f (pc := 6) B 12 dX4_bestPlan_6 (by decide) hc ?_
      refine x_bipush (pc := 9) B dX4_bestPlan_9 xk_bipush_m2 ?_
      exact x_iret (pc := 11) B hR dX4_bestPlan_11 (xzI _) h
    · refine x_if_ne_t (tgt := 12) (pc := 6) B dX4_bestPlan_6 (by decide) hc ?_
      refine x_bipush (pc := 12) B dX4_bestPlan_12 xk_bipush_m6 ?_
      refine x_istore_n (L1 := [(2, .int (-6 : Int32)), (0, .ref a0), (1, .int i1)]) (pc := 14) B dX4_bestPlan_14 rfl (by decide) rfl ?_
      refine x_iconst (pc := 15) B dX4_bestPlan_15 xk_iconst_0 ?_
      refine x_istore_n (L1 := [(3, .int (0 : Int32)), (2, .int (-6 : Int32)), (0, .ref a0), (1, .int i1)]) (pc := 16) B dX4_bestPlan_16 rfl (by decide) rfl ?_
      refine x_iconst (pc := 17) B dX4_bestPlan_17 xk_iconst_0 ?_
      refine x_istore (L1 := [(4, .int (0 : Int32)), (3, .int (0 : Int32)), (2, .int (-6 : Int32)), (0, .ref a0), (1, .int i1)]) (pc := 18) B dX4_bestPlan_18 (by decide) rfl ?_
      refine x_sub (L1 := [(0, .ref a0), (1, .int i1), (2, .int (-6 : Int32)), (3, .int (0 : Int32)), (4, .int (0 : Int32))]) [3, 4, 2, 1, 0] rfl ?_
      exact pX4_bestPlan_20 B hR 1000 a0 i1 (-6 : Int32) (0 : Int32) (0 : Int32) q1.2 h
  · exact absurd h (by simp)
def fX4_payoff (a0 : Nat) (i1 : Int32) (i2 : Int32) (i3 : Int32) (i4 : Int32) (w : XW) : Option (Int32 × XW) := if xis w a0 4 = true then
  (fX4_arePlace i2 i3 i4 w).bind fun q1 =>
  if q1.1 = (0 : Int32) then
    some ((-1 : Int32), q1.2)
  else
  (fX4_in i1 (0 : Int32) (1 : Int32) q1.2).bind fun q2 =>
  if q2.1 = (0 : Int32) then
    some ((-2 : Int32), q2.2)
  else
  (xgR q2.2 a0 4 0).bind fun v3 =>
  (fX4_place i1 i2 i3 i4 q2.2).bind fun q4 =>
  (xaI q4.2 v3 q4.1).bind fun v5 =>
  some ((v5 + (100 : Int32)), q4.2)
  else none
theorem iX4_payoff {a0 : Nat} {i1 : Int32} {i2 : Int32} {i3 : Int32} {i4 : Int32} {w : XW} {R9 : (Int32 × XW)} (h : fX4_payoff a0 i1 i2 i3 i4 w = some R9) : xis w a0 4 = true := by
  unfold fX4_payoff at h
  rcases xite h with ⟨hc, h⟩ | ⟨hc, h⟩
  · exact hc
  · exact absurd h (by simp)
theorem np_X4_payoff : (parseMethodDescriptor yX4_payoff.desc).map (fun d => d.parameters.length) = some 4 := by decide +kernel
theorem hy_X4_payoff : yX4_payoff.cls ≠ "java/lang/invoke/MethodHandle" ∧ yX4_payoff.cls ≠ "java/lang/invoke/VarHandle" := ⟨by decide +kernel, by decide +kernel⟩
set_option maxRecDepth 20000 in
theorem eX4_payoff {cx : CX} {a0 : Nat} {i1 : Int32} {i2 : Int32} {i3 : Int32} {i4 : Int32} {w : XW} {R9 : (Int32 × XW)} (h : fX4_payoff a0 i1 i2 i3 i4 w = some R9) : Ct yX4_payoff cX4_payoff 5 (some .int) 3 64 cx [.ref a0, .int i1, .int i2, .int i3, .int i4] w (some (.int R9.1)) R9.2 := by
  refine Ct_of (by decide +kernel) (Nat.le_of_ble_eq_true rfl) (fun K B hR => ?_)
  rw [fX4_payoff] at h
  show Wx K cx 5 w.length 0 [(0, .ref a0), (1, .int i1), (2, .int i2), (3, .int i3), (4, .int i4)] [] w
  rcases xite h with ⟨hc, h⟩ | ⟨hc, h⟩
  · skip
    refine x_iload_n (pc := 0) B 2 dX4_payoff_0 rfl rfl ?_
    refine x_iload_n (pc := 1) B 3 dX4_payoff_1 rfl rfl ?_
    refine x_iload (pc := 2) B 4 dX4_payoff_2 rfl ?_
    obtain ⟨q1, hq, h⟩ := xbind h
    refine x_callS1 (st := []) (pc := 4) B dX4_payoff_4 (eX4_arePlace hq) xt_673 xt_58 np_X4_arePlace hy_X4_arePlace (Nat.le_of_ble_eq_true rfl) (Nat.le_of_ble_eq_true rfl) (Nat.le_of_ble_eq_true rfl) xt_672 xt_671 rfl ?_
    rcases xite h with ⟨hc, h⟩ | ⟨hc, h⟩
    · refine x_if_ne_f (pc := 7) B 12 dX4_payoff_7 (by decide) hc ?_
      refine x_iconst (pc := 10) B dX4_payoff_10 xk_iconst_m1 ?_
      exact x_iret (pc := 11) B hR dX4_payoff_11 (xzI _) h
    · refine x_if_ne_t (tgt := 12) (pc := 7) B dX4_payoff_7 (by decide) hc ?_
      refine x_iload_n (pc := 12) B 1 dX4_payoff_12 rfl rfl ?_
      refine x_iconst (pc := 13) B dX4_payoff_13 xk_iconst_0 ?_
      refine x_iconst (pc := 14) B dX4_payoff_14 xk_iconst_1 ?_
      obtain ⟨q2, hq, h⟩ := xbind h
      refine x_callS1 (st := []) (pc := 15) B dX4_payoff_15 (eX4_in hq) xt_639 xt_58 np_X4_in hy_X4_in (Nat.le_of_ble_eq_true rfl) (Nat.le_of_ble_eq_true rfl) (Nat.le_of_ble_eq_true rfl) xt_638 xt_637 rfl ?_
      rcases xite h with ⟨hc, h⟩ | ⟨hc, h⟩
      · refine x_if_eq_t (tgt := 40) (pc := 18) B dX4_payoff_18 (by decide) hc ?_
        refine x_bipush (pc := 40) B dX4_payoff_40 xk_bipush_m2 ?_
        exact x_iret (pc := 42) B hR dX4_payoff_42 (xzI _) h
      · refine x_if_eq_f (pc := 18) B 40 dX4_payoff_18 (by decide) hc ?_
        refine x_aload_n (pc := 21) B 0 dX4_payoff_21 rfl rfl ?_
        obtain ⟨v3, hv, h⟩ := xbind h
        refine x_getR (k0 := 0) (pc := 22) B dX4_payoff_22 rfl xi_4 (by decide) ⟨rfl, rfl, rfl⟩ xt_602 hv ?_
        refine x_iload_n (pc := 25) B 1 dX4_payoff_25 rfl rfl ?_
        refine x_iload_n (pc := 26) B 2 dX4_payoff_26 rfl rfl ?_
        refine x_iload_n (pc := 27) B 3 dX4_payoff_27 rfl rfl ?_
        refine x_iload (pc := 28) B 4 dX4_payoff_28 rfl ?_
        obtain ⟨q4, hq, h⟩ := xbind h
        refine x_callS1 (st := [.ref v3]) (pc := 30) B dX4_payoff_30 (eX4_place hq) xt_676 xt_58 np_X4_place hy_X4_place (Nat.le_of_ble_eq_true rfl) (Nat.le_of_ble_eq_true rfl) (Nat.le_of_ble_eq_true rfl) xt_675 xt_674 rfl ?_
        obtain ⟨v5, hv, h⟩ := xbind h
        refine x_iald (pc := 33) B dX4_payoff_33 hv ?_
        refine x_bipush (pc := 34) B dX4_payoff_34 xk_bipush_100 ?_
        refine x_iadd (pc := 36) B dX4_payoff_36 ?_
        refine x_goto (tgt := 42) (pc := 37) B dX4_payoff_37 (by decide) ?_
        exact x_iret (pc := 42) B hR dX4_payoff_42 (xzI _) h
  · exact absurd h (by simp)
def fX4_looks (a0 : Nat) (w : XW) : Option XW := if xis w a0 4 = true then
  (fX4_code a0 w).bind fun q1 =>
  (fX4_looksAt a0 q1.1 q1.2).bind fun q2 =>
  some q2
  else none
theorem iX4_looks {a0 : Nat} {w : XW} {R9 : XW} (h : fX4_looks a0 w = some R9) : xis w a0 4 = true := by
  unfold fX4_looks at h
  rcases xite h with ⟨hc, h⟩ | ⟨hc, h⟩
  · exact hc
  · exact absurd h (by simp)
theorem np_X4_looks : (parseMethodDescriptor yX4_looks.desc).map (fun d => d.parameters.length) = some 0 := by decide +kernel
theorem hy_X4_looks : yX4_looks.cls ≠ "java/lang/invoke/MethodHandle" ∧ yX4_looks.cls ≠ "java/lang/invoke/VarHandle" := ⟨by decide +kernel, by decide +kernel⟩
set_option maxRecDepth 20000 in
theorem eX4_looks {cx : CX} {a0 : Nat} {w : XW} {R9 : XW} (h : fX4_looks a0 w = some R9) : Ct yX4_looks cX4_looks 1 none 1 23 cx [.ref a0] w none R9 := by
  refine Ct_of (by decide +kernel) (Nat.le_of_ble_eq_true rfl) (fun K B hR => ?_)
  rw [fX4_looks] at h
  show Wx K cx 1 w.length 0 [(0, .ref a0)] [] w
  rcases xite h with ⟨hc, h⟩ | ⟨hc, h⟩
  · skip
    refine x_aload_n (pc := 0) B 0 dX4_looks_0 rfl rfl ?_
    refine x_aload_n (pc := 1) B 0 dX4_looks_1 rfl rfl ?_
    obtain ⟨q1, hq, h⟩ := xbind h
    refine x_callV1 (st := [.ref a0]) (pc := 2) B dX4_looks_2 (eX4_code hq) xt_643 xt_58 np_X4_code hy_X4_code (Nat.le_of_ble_eq_true rfl) (Nat.le_of_ble_eq_true rfl) (Nat.le_of_ble_eq_true rfl) xt_642 xt_14 xt_640 rfl (iX4_code hq) rfl ?_
    obtain ⟨q2, hq, h⟩ := xbind h
    refine x_callV0 (st := []) (pc := 5) B dX4_looks_5 (eX4_looksAt hq) xt_704 xt_58 np_X4_looksAt hy_X4_looksAt (Nat.le_of_ble_eq_true rfl) (Nat.le_of_ble_eq_true rfl) (Nat.le_of_ble_eq_true rfl) xt_703 xt_20 xt_701 rfl (iX4_looksAt hq) rfl ?_
    exact x_vret (pc := 8) B hR dX4_looks_8 h
  · exact absurd h (by simp)
def fX4_ofType (a0 : Nat) (i1 : Int32) (i2 : Int32) (w : XW) : Option (Int32 × XW) := if xis w a0 4 = true then
  (fX4_isOne i1 w).bind fun q1 =>
  if q1.1 = (0 : Int32) then
    some ((-1 : Int32), q1.2)
  else
  (fX4_in i2 (0 : Int32) (4 : Int32) q1.2).bind fun q2 =>
  if q2.1 = (0 : Int32) then
    some ((-2 : Int32), q2.2)
  else
  (fX4_looks a0 q2.2).bind fun q3 =>
  if (3 : Int32) ≤ i2 then
    (fX4_most a0 i1 q3).bind fun q4 =>
    if i2 = (3 : Int32) then
      some (q4.1, q4.2)
    else
    (fX4_has a0 i1 q4.1 q4.2).bind fun q5 =>
    (fX4_payoffOf a0 i1 q5.2).bind fun q6 =>
    some ((q5.1 - q6.1), q6.2)
  else
  if i2 = (0 : Int32) then
    (xgR q3 a0 4 0).bind fun v7 =>
    (xaI q3 v7 i1).bind fun v8 =>
    some (v8, q3)
  else
  if i2 = (1 : Int32) then
    (xgR q3 a0 4 10).bind fun v9 =>
    (xaI q3 v9 i1).bind fun v10 =>
    some (v10, q3)
  else
  (fX4_payoffOf a0 i1 q3).bind fun q11 =>
  some ((q11.1 + (100 : Int32)), q11.2)
  else none
theorem iX4_ofType {a0 : Nat} {i1 : Int32} {i2 : Int32} {w : XW} {R9 : (Int32 × XW)} (h : fX4_ofType a0 i1 i2 w = some R9) : xis w a0 4 = true := by
  unfold fX4_ofType at h
  rcases xite h with ⟨hc, h⟩ | ⟨hc, h⟩
  · exact hc
  · exact absurd h (by simp)
theorem np_X4_ofType : (parseMethodDescriptor yX4_ofType.desc).map (fun d => d.parameters.length) = some 2 := by decide +kernel
theorem hy_X4_ofType : yX4_ofType.cls ≠ "java/lang/invoke/MethodHandle" ∧ yX4_ofType.cls ≠ "java/lang/invoke/VarHandle" := ⟨by decide +kernel, by decide +kernel⟩
set_option maxRecDepth 20000 in
theorem eX4_ofType {cx : CX} {a0 : Nat} {i1 : Int32} {i2 : Int32} {w : XW} {R9 : (Int32 × XW)} (h : fX4_ofType a0 i1 i2 w = some R9) : Ct yX4_ofType cX4_ofType 4 (some .int) 3 68 cx [.ref a0, .int i1, .int i2] w (some (.int R9.1)) R9.2 := by
  refine Ct_of (by decide +kernel) (Nat.le_of_ble_eq_true rfl) (fun K B hR => ?_)
  rw [fX4_ofType] at h
  show Wx K cx 4 w.length 0 [(0, .ref a0), (1, .int i1), (2, .int i2)] [] w
  rcases xite h with ⟨hc, h⟩ | ⟨hc, h⟩
  · skip
    refine x_iload_n (pc := 0) B 1 dX4_ofType_0 rfl rfl ?_
    obtain ⟨q1, hq, h⟩ := xbind h
    refine x_callS1 (st := []) (pc := 1) B dX4_ofType_1 (eX4_isOne hq) xt_662 xt_58 np_X4_isOne hy_X4_isOne (Nat.le_of_ble_eq_true rfl) (Nat.le_of_ble_eq_true rfl) (Nat.le_of_ble_eq_true rfl) xt_661 xt_660 rfl ?_
    rcases xite h with ⟨hc, h⟩ | ⟨hc, h⟩
    · refine x_if_ne_f (pc := 4) B 9 dX4_ofType_4 (by decide) hc ?_
      refine x_iconst (pc := 7) B dX4_ofType_7 xk_iconst_m1 ?_
      exact x_iret (pc := 8) B hR dX4_ofType_8 (xzI _) h
    · refine x_if_ne_t (tgt := 9) (pc := 4) B dX4_ofType_4 (by decide) hc ?_
      refine x_iload_n (pc := 9) B 2 dX4_ofType_9 rfl rfl ?_
      refine x_iconst (pc := 10) B dX4_ofType_10 xk_iconst_0 ?_
      refine x_iconst (pc := 11) B dX4_ofType_11 xk_iconst_4 ?_
      obtain ⟨q2, hq, h⟩ := xbind h
      refine x_callS1 (st := []) (pc := 12) B dX4_ofType_12 (eX4_in hq) xt_639 xt_58 np_X4_in hy_X4_in (Nat.le_of_ble_eq_true rfl) (Nat.le_of_ble_eq_true rfl) (Nat.le_of_ble_eq_true rfl) xt_638 xt_637 rfl ?_
      rcases xite h with ⟨hc, h⟩ | ⟨hc, h⟩
      · refine x_if_ne_f (pc := 15) B 21 dX4_ofType_15 (by decide) hc ?_
        refine x_bipush (pc := 18) B dX4_ofType_18 xk_bipush_m2 ?_
        exact x_iret (pc := 20) B hR dX4_ofType_20 (xzI _) h
      · refine x_if_ne_t (tgt := 21) (pc := 15) B dX4_ofType_15 (by decide) hc ?_
        refine x_aload_n (pc := 21) B 0 dX4_ofType_21 rfl rfl ?_
        obtain ⟨q3, hq, h⟩ := xbind h
        refine x_callV0 (st := []) (pc := 22) B dX4_ofType_22 (eX4_looks hq) xt_812 xt_58 np_X4_looks hy_X4_looks (Nat.le_of_ble_eq_true rfl) (Nat.le_of_ble_eq_true rfl) (Nat.le_of_ble_eq_true rfl) xt_811 xt_42 xt_809 rfl (iX4_looks hq) rfl ?_
        refine x_iload_n (pc := 25) B 2 dX4_ofType_25 rfl rfl ?_
        refine x_iconst (pc := 26) B dX4_ofType_26 xk_iconst_3 ?_
        rcases xite h with ⟨hc, h⟩ | ⟨hc, h⟩
        · refine x_icmp_ge_t (tgt := 66) (pc := 27) B dX4_ofType_27 (by decide) hc ?_
          refine x_aload_n (pc := 66) B 0 dX4_ofType_66 rfl rfl ?_
          refine x_iload_n (pc := 67) B 1 dX4_ofType_67 rfl rfl ?_
          obtain ⟨q4, hq, h⟩ := xbind h
          refine x_callV1 (st := []) (pc := 68) B dX4_ofType_68 (eX4_most hq) xt_720 xt_58 np_X4_most hy_X4_most (Nat.le_of_ble_eq_true rfl) (Nat.le_of_ble_eq_true rfl) (Nat.le_of_ble_eq_true rfl) xt_719 xt_24 xt_717 rfl (iX4_most hq) rfl ?_
          refine x_istore_n (L1 := [(3, .int q4.1), (0, .ref a0), (1, .int i1), (2, .int i2)]) (pc := 71) B dX4_ofType_71 rfl (by decide) rfl ?_
          refine x_iload_n (pc := 72) B 3 dX4_ofType_72 rfl rfl ?_
          refine x_iconst (pc := 73) B dX4_ofType_73 xk_iconst_3 ?_
          rcases xite h with ⟨hc, h⟩ | ⟨hc, h⟩
          · refine x_icmp_ne_f (pc := 74) B 81 dX4_ofType_74 (by decide) hc ?_
            refine x_iload_n (pc := 77) B 0 dX4_ofType_77 rfl rfl ?_
            refine x_goto (tgt := 93) (pc := 78) B dX4_ofType_78 (by decide) ?_
            exact x_iret (pc := 93) B hR dX4_ofType_93 (xzI _) h
          · refine x_icmp_ne_t (tgt := 81) (pc := 74) B dX4_ofType_74 (by decide) hc ?_
            refine x_aload_n (pc := 81) B 1 dX4_ofType_81 rfl rfl ?_
            refine x_iload_n (pc := 82) B 2 dX4_ofType_82 rfl rfl ?_
            refine x_iload_n (pc := 83) B 0 dX4_ofType_83 rfl rfl ?_
            obtain ⟨q5, hq, h⟩ := xbind h
            refine x_callV1 (st := []) (pc := 84) B dX4_ofType_84 (eX4_has hq) xt_724 xt_58 np_X4_has hy_X4_has (Nat.le_of_ble_eq_true rfl) (Nat.le_of_ble_eq_true rfl) (Nat.le_of_ble_eq_true rfl) xt_723 xt_25 xt_721 rfl (iX4_has hq) rfl ?_
            refine x_aload_n (pc := 87) B 1 dX4_ofType_87 rfl rfl ?_
            refine x_iload_n (pc := 88) B 2 dX4_ofType_88 rfl rfl ?_
            obtain ⟨q6, hq, h⟩ := xbind h
            refine x_callV1 (st := [.int q5.1]) (pc := 89) B dX4_ofType_89 (eX4_payoffOf hq) xt_728 xt_58 np_X4_payoffOf hy_X4_payoffOf (Nat.le_of_ble_eq_true rfl) (Nat.le_of_ble_eq_true rfl) (Nat.le_of_ble_eq_true rfl) xt_727 xt_26 xt_725 rfl (iX4_payoffOf hq) rfl ?_
            refine x_isub (pc := 92) B dX4_ofType_92 ?_
            exact x_iret (pc := 93) B hR dX4_ofType_93 (xzI _) h
        · refine x_icmp_ge_f (pc := 27) B 66 dX4_ofType_27 (by decide) hc ?_
          refine x_iload_n (pc := 30) B 2 dX4_ofType_30 rfl rfl ?_
          rcases xite h with ⟨hc, h⟩ | ⟨hc, h⟩
          · refine x_if_ne_f (pc := 31) B 43 dX4_ofType_31 (by decide) hc ?_
            refine x_aload_n (pc := 34) B 0 dX4_ofType_34 rfl rfl ?_
            obtain ⟨v7, hv, h⟩ := xbind h
            refine x_getR (k0 := 0) (pc := 35) B dX4_ofType_35 rfl xi_4 (by decide) ⟨rfl, rfl, rfl⟩ xt_602 hv ?_
            refine x_iload_n (pc := 38) B 1 dX4_ofType_38 rfl rfl ?_
            obtain ⟨v8, hv, h⟩ := xbind h
            refine x_iald (pc := 39) B dX4_ofType_39 hv ?_
            refine x_goto (tgt := 65) (pc := 40) B dX4_ofType_40 (by decide) ?_
            exact x_iret (pc := 65) B hR dX4_ofType_65 (xzI _) h
          · refine x_if_ne_t (tgt := 43) (pc := 31) B dX4_ofType_31 (by decide) hc ?_
            refine x_iload_n (pc := 43) B 2 dX4_ofType_43 rfl rfl ?_
            refine x_iconst (pc := 44) B dX4_ofType_44 xk_iconst_1 ?_
            rcases xite h with ⟨hc, h⟩ | ⟨hc, h⟩
            · refine x_icmp_ne_f (pc := 45) B 57 dX4_ofType_45 (by decide) hc ?_
              refine x_aload_n (pc := 48) B 0 dX4_ofType_48 rfl rfl ?_
              obtain ⟨v9, hv, h⟩ := xbind h
              refine x_getR (k0 := 10) (pc := 49) B dX4_ofType_49 rfl xi_4 (by decide) ⟨rfl, rfl, rfl⟩ xt_612 hv ?_
              refine x_iload_n (pc := 52) B 1 dX4_ofType_52 rfl rfl ?_
              obtain ⟨v10, hv, h⟩ := xbind h
              refine x_iald (pc := 53) B dX4_ofType_53 hv ?_
              refine x_goto (tgt := 65) (pc := 54) B dX4_ofType_54 (by decide) ?_
              exact x_iret (pc := 65) B hR dX4_ofType_65 (xzI _) h
            · refine x_icmp_ne_t (tgt := 57) (pc := 45) B dX4_ofType_45 (by decide) hc ?_
              refine x_aload_n (pc := 57) B 0 dX4_ofType_57 rfl rfl ?_
              refine x_iload_n (pc := 58) B 1 dX4_ofType_58 rfl rfl ?_
              obtain ⟨q11, hq, h⟩ := xbind h
              refine x_callV1 (st := []) (pc := 59) B dX4_ofType_59 (eX4_payoffOf hq) xt_728 xt_58 np_X4_payoffOf hy_X4_payoffOf (Nat.le_of_ble_eq_true rfl) (Nat.le_of_ble_eq_true rfl) (Nat.le_of_ble_eq_true rfl) xt_727 xt_26 xt_725 rfl (iX4_payoffOf hq) rfl ?_
              refine x_bipush (pc := 62) B dX4_ofType_62 xk_bipush_100 ?_
              refine x_iadd (pc := 64) B dX4_ofType_64 ?_
              exact x_iret (pc := 65) B hR dX4_ofType_65 (xzI _) h
  · exact absurd h (by simp)
def fX4_ofMessage (a0 : Nat) (i1 : Int32) (i2 : Int32) (w : XW) : Option (Int32 × XW) := if xis w a0 4 = true then
  (fX4_isOne i1 w).bind fun q1 =>
  if q1.1 = (0 : Int32) then
    some ((-1 : Int32), q1.2)
  else
  (fX4_in i2 (0 : Int32) (5 : Int32) q1.2).bind fun q2 =>
  if q2.1 = (0 : Int32) then
    some ((-2 : Int32), q2.2)
  else
  (fX4_looks a0 q2.2).bind fun q3 =>
  if (3 : Int32) ≤ i2 then
    if i2 = (3 : Int32) then
      (fX4_senders a0 i1 q3).bind fun q4 =>
      some (q4.1, q4.2)
    else
    if i2 = (4 : Int32) then
      (fX4_never a0 i1 q3).bind fun q5 =>
      some (q5.1, q5.2)
    else
    (fX4_there a0 q3).bind fun q6 =>
    (fX4_possible a0 i1 q6.1 q6.2).bind fun q7 =>
    some (q7.1, q7.2)
  else
  if i2 = (0 : Int32) then
    (fX4_senders a0 i1 q3).bind fun q8 =>
    if q8.1 = (0 : Int32) then
      some ((0 : Int32), q8.2)
    else
    some ((1 : Int32), q8.2)
  else
  if i2 = (1 : Int32) then
    (xgR q3 a0 4 10).bind fun v9 =>
    (xaI q3 v9 ((3 : Int32) + i1)).bind fun v10 =>
    some (v10, q3)
  else
  (fX4_best a0 i1 q3).bind fun q11 =>
  some (q11.1, q11.2)
  else none
theorem iX4_ofMessage {a0 : Nat} {i1 : Int32} {i2 : Int32} {w : XW} {R9 : (Int32 × XW)} (h : fX4_ofMessage a0 i1 i2 w = some R9) : xis w a0 4 = true := by
  unfold fX4_ofMessage at h
  rcases xite h with ⟨hc, h⟩ | ⟨hc, h⟩
  · exact hc
  · exact absurd h (by simp)
theorem np_X4_ofMessage : (parseMethodDescriptor yX4_ofMessage.desc).map (fun d => d.parameters.length) = some 2 := by decide +kernel
theorem hy_X4_ofMessage : yX4_ofMessage.cls ≠ "java/lang/invoke/MethodHandle" ∧ yX4_ofMessage.cls ≠ "java/lang/invoke/VarHandle" := ⟨by decide +kernel, by decide +kernel⟩
set_option maxRecDepth 20000 in
theorem eX4_ofMessage {cx : CX} {a0 : Nat} {i1 : Int32} {i2 : Int32} {w : XW} {R9 : (Int32 × XW)} (h : fX4_ofMessage a0 i1 i2 w = some R9) : Ct yX4_ofMessage cX4_ofMessage 3 (some .int) 5 122 cx [.ref a0, .int i1, .int i2] w (some (.int R9.1)) R9.2 := by
  refine Ct_of (by decide +kernel) (Nat.le_of_ble_eq_true rfl) (fun K B hR => ?_)
  rw [fX4_ofMessage] at h
  show Wx K cx 3 w.length 0 [(0, .ref a0), (1, .int i1), (2, .int i2)] [] w
  rcases xite h with ⟨hc, h⟩ | ⟨hc, h⟩
  · skip
    refine x_iload_n (pc := 0) B 1 dX4_ofMessage_0 rfl rfl ?_
    obtain ⟨q1, hq, h⟩ := xbind h
    refine x_callS1 (st := []) (pc := 1) B dX4_ofMessage_1 (eX4_isOne hq) xt_662 xt_58 np_X4_isOne hy_X4_isOne (Nat.le_of_ble_eq_true rfl) (Nat.le_of_ble_eq_true rfl) (Nat.le_of_ble_eq_true rfl) xt_661 xt_660 rfl ?_
    rcases xite h with ⟨hc, h⟩ | ⟨hc, h⟩
    · refine x_if_ne_f (pc := 4) B 9 dX4_ofMessage_4 (by decide) hc ?_
      refine x_iconst (pc := 7) B dX4_ofMessage_7 xk_iconst_m1 ?_
      exact x_iret (pc := 8) B hR dX4_ofMessage_8 (xzI _) h
    · refine x_if_ne_t (tgt := 9) (pc := 4) B dX4_ofMessage_4 (by decide) hc ?_
      refine x_iload_n (pc := 9) B 2 dX4_ofMessage_9 rfl rfl ?_
      refine x_iconst (pc := 10) B dX4_ofMessage_10 xk_iconst_0 ?_
      refine x_iconst (pc := 11) B dX4_ofMessage_11 xk_iconst_5 ?_
      obtain ⟨q2, hq, h⟩ := xbind h
      refine x_callS1 (st := []) (pc := 12) B dX4_ofMessage_12 (eX4_in hq) xt_639 xt_58 np_X4_in hy_X4_in (Nat.le_of_ble_eq_true rfl) (Nat.le_of_ble_eq_true rfl) (Nat.le_of_ble_eq_true rfl) xt_638 xt_637 rfl ?_
      rcases xite h with ⟨hc, h⟩ | ⟨hc, h⟩
      · refine x_if_ne_f (pc := 15) B 21 dX4_ofMessage_15 (by decide) hc ?_
        refine x_bipush (pc := 18) B dX4_ofMessage_18 xk_bipush_m2 ?_
        exact x_iret (pc := 20) B hR dX4_ofMessage_20 (xzI _) h
      · refine x_if_ne_t (tgt := 21) (pc := 15) B dX4_ofMessage_15 (by decide) hc ?_
        refine x_aload_n (pc := 21) B 0 dX4_ofMessage_21 rfl rfl ?_
        obtain ⟨q3, hq, h⟩ := xbind h
        refine x_callV0 (st := []) (pc := 22) B dX4_ofMessage_22 (eX4_looks hq) xt_812 xt_58 np_X4_looks hy_X4_looks (Nat.le_of_ble_eq_true rfl) (Nat.le_of_ble_eq_true rfl) (Nat.le_of_ble_eq_true rfl) xt_811 xt_42 xt_809 rfl (iX4_looks hq) rfl ?_
        refine x_iload_n (pc := 25) B 2 dX4_ofMessage_25 rfl rfl ?_
        refine x_iconst (pc := 26) B dX4_ofMessage_26 xk_iconst_3 ?_
        rcases xite h with ⟨hc, h⟩ | ⟨hc, h⟩
        · refine x_icmp_ge_t (tgt := 72) (pc := 27) B dX4_ofMessage_27 (by decide) hc ?_
          refine x_iload_n (pc := 72) B 2 dX4_ofMessage_72 rfl rfl ?_
          refine x_iconst (pc := 73) B dX4_ofMessage_73 xk_iconst_3 ?_
          rcases xite h with ⟨hc, h⟩ | ⟨hc, h⟩
          · refine x_icmp_ne_f (pc := 74) B 85 dX4_ofMessage_74 (by decide) hc ?_
            refine x_aload_n (pc := 77) B 0 dX4_ofMessage_77 rfl rfl ?_
            refine x_iload_n (pc := 78) B 1 dX4_ofMessage_78 rfl rfl ?_
            obtain ⟨q4, hq, h⟩ := xbind h
            refine x_callV1 (st := []) (pc := 79) B dX4_ofMessage_79 (eX4_senders hq) xt_744 xt_58 np_X4_senders hy_X4_senders (Nat.le_of_ble_eq_true rfl) (Nat.le_of_ble_eq_true rfl) (Nat.le_of_ble_eq_true rfl) xt_743 xt_30 xt_741 rfl (iX4_senders hq) rfl ?_
            refine x_goto (tgt := 107) (pc := 82) B dX4_ofMessage_82 (by decide) ?_
            exact x_iret (pc := 107) B hR dX4_ofMessage_107 (xzI _) h
          · refine x_icmp_ne_t (tgt := 85) (pc := 74) B dX4_ofMessage_74 (by decide) hc ?_
            refine x_iload_n (pc := 85) B 2 dX4_ofMessage_85 rfl rfl ?_
            refine x_iconst (pc := 86) B dX4_ofMessage_86 xk_iconst_4 ?_
            rcases xite h with ⟨hc, h⟩ | ⟨hc, h⟩
            · refine x_icmp_ne_f (pc := 87) B 98 dX4_ofMessage_87 (by decide) hc ?_
              refine x_aload_n (pc := 90) B 0 dX4_ofMessage_90 rfl rfl ?_
              refine x_iload_n (pc := 91) B 1 dX4_ofMessage_91 rfl rfl ?_
              obtain ⟨q5, hq, h⟩ := xbind h
              refine x_callV1 (st := []) (pc := 92) B dX4_ofMessage_92 (eX4_never hq) xt_772 xt_58 np_X4_never hy_X4_never (Nat.le_of_ble_eq_true rfl) (Nat.le_of_ble_eq_true rfl) (Nat.le_of_ble_eq_true rfl) xt_771 xt_37 xt_769 rfl (iX4_never hq) rfl ?_
              refine x_goto (tgt := 107) (pc := 95) B dX4_ofMessage_95 (by decide) ?_
              exact x_iret (pc := 107) B hR dX4_ofMessage_107 (xzI _) h
            · refine x_icmp_ne_t (tgt := 98) (pc := 87) B dX4_ofMessage_87 (by decide) hc ?_
              refine x_aload_n (pc := 98) B 0 dX4_ofMessage_98 rfl rfl ?_
              refine x_iload_n (pc := 99) B 1 dX4_ofMessage_99 rfl rfl ?_
              refine x_aload_n (pc := 100) B 0 dX4_ofMessage_100 rfl rfl ?_
              obtain ⟨q6, hq, h⟩ := xbind h
              refine x_callV1 (st := [.int i1, .ref a0]) (pc := 101) B dX4_ofMessage_101 (eX4_there hq) xt_768 xt_58 np_X4_there hy_X4_there (Nat.le_of_ble_eq_true rfl) (Nat.le_of_ble_eq_true rfl) (Nat.le_of_ble_eq_true rfl) xt_767 xt_36 xt_765 rfl (iX4_there hq) rfl ?_
              obtain ⟨q7, hq, h⟩ := xbind h
              refine x_callV1 (st := []) (pc := 104) B dX4_ofMessage_104 (eX4_possible hq) xt_776 xt_58 np_X4_possible hy_X4_possible (Nat.le_of_ble_eq_true rfl) (Nat.le_of_ble_eq_true rfl) (Nat.le_of_ble_eq_true rfl) xt_775 xt_38 xt_773 rfl (iX4_possible hq) rfl ?_
              exact x_iret (pc := 107) B hR dX4_ofMessage_107 (xzI _) h
        · refine x_icmp_ge_f (pc := 27) B 72 dX4_ofMessage_27 (by decide) hc ?_
          refine x_iload_n (pc := 30) B 2 dX4_ofMessage_30 rfl rfl ?_
          rcases xite h with ⟨hc, h⟩ | ⟨hc, h⟩
          · refine x_if_ne_f (pc := 31) B 50 dX4_ofMessage_31 (by decide) hc ?_
            refine x_aload_n (pc := 34) B 0 dX4_ofMessage_34 rfl rfl ?_
            refine x_iload_n (pc := 35) B 1 dX4_ofMessage_35 rfl rfl ?_
            obtain ⟨q8, hq, h⟩ := xbind h
            refine x_callV1 (st := []) (pc := 36) B dX4_ofMessage_36 (eX4_senders hq) xt_744 xt_58 np_X4_senders hy_X4_senders (Nat.le_of_ble_eq_true rfl) (Nat.le_of_ble_eq_true rfl) (Nat.le_of_ble_eq_true rfl) xt_743 xt_30 xt_741 rfl (iX4_senders hq) rfl ?_
            rcases xite h with ⟨hc, h⟩ | ⟨hc, h⟩
            · refine x_if_ne_f (pc := 39) B 46 dX4_ofMessage_39 (by decide) hc ?_
              refine x_iconst (pc := 42) B dX4_ofMessage_42 xk_iconst_0 ?_
              refine x_goto (tgt := 71) (pc := 43) B dX4_ofMessage_43 (by decide) ?_
              exact x_iret (pc := 71) B hR dX4_ofMessage_71 (xzI _) h
            · refine x_if_ne_t (tgt := 46) (pc := 39) B dX4_ofMessage_39 (by decide) hc ?_
              refine x_iconst (pc := 46) B dX4_ofMessage_46 xk_iconst_1 ?_
              refine x_goto (tgt := 71) (pc := 47) B dX4_ofMessage_47 (by decide) ?_
              exact x_iret (pc := 71) B hR dX4_ofMessage_71 (xzI _) h
          · refine x_if_ne_t (tgt := 50) (pc := 31) B dX4_ofMessage_31 (by decide) hc ?_
            refine x_iload_n (pc := 50) B 2 dX4_ofMessage_50 rfl rfl ?_
            refine x_iconst (pc := 51) B dX4_ofMessage_51 xk_iconst_1 ?_
            rcases xite h with ⟨hc, h⟩ | ⟨hc, h⟩
            · refine x_icmp_ne_f (pc := 52) B 66 dX4_ofMessage_52 (by decide) hc ?_
              refine x_aload_n (pc := 55) B 0 dX4_ofMessage_55 rfl rfl ?_
              obtain ⟨v9, hv, h⟩ := xbind h
              refine x_getR (k0 := 10) (pc := 56) B dX4_ofMessage_56 rfl xi_4 (by decide) ⟨rfl, rfl, rfl⟩ xt_612 hv ?_
              refine x_iconst (pc := 59) B dX4_ofMessage_59 xk_iconst_3 ?_
              refine x_iload_n (pc := 60) B 1 dX4_ofMessage_60 rfl rfl ?_
              refine x_iadd (pc := 61) B dX4_ofMessage_61 ?_
              obtain ⟨v10, hv, h⟩ := xbind h
              refine x_iald (pc := 62) B dX4_ofMessage_62 hv ?_
              refine x_goto (tgt := 71) (pc := 63) B dX4_ofMessage_63 (by decide) ?_
              exact x_iret (pc := 71) B hR dX4_ofMessage_71 (xzI _) h
            · refine x_icmp_ne_t (tgt := 66) (pc := 52) B dX4_ofMessage_52 (by decide) hc ?_
              refine x_aload_n (pc := 66) B 0 dX4_ofMessage_66 rfl rfl ?_
              refine x_iload_n (pc := 67) B 1 dX4_ofMessage_67 rfl rfl ?_
              obtain ⟨q11, hq, h⟩ := xbind h
              refine x_callV1 (st := []) (pc := 68) B dX4_ofMessage_68 (eX4_best hq) xt_736 xt_58 np_X4_best hy_X4_best (Nat.le_of_ble_eq_true rfl) (Nat.le_of_ble_eq_true rfl) (Nat.le_of_ble_eq_true rfl) xt_735 xt_28 xt_733 rfl (iX4_best hq) rfl ?_
              exact x_iret (pc := 71) B hR dX4_ofMessage_71 (xzI _) h
  · exact absurd h (by simp)
def fX4_sum (a0 : Nat) (w : XW) : Option (Int32 × XW) := if xis w a0 4 = true then
  (xgR w a0 4 11).bind fun v1 =>
  (xaI w v1 (0 : Int32)).bind fun v2 =>
  (xgR w a0 4 11).bind fun v3 =>
  (xaI w v3 (1 : Int32)).bind fun v4 =>
  (xgR w a0 4 11).bind fun v5 =>
  (xaI w v5 (2 : Int32)).bind fun v6 =>
  some (((v2 + v4) + v6), w)
  else none
theorem iX4_sum {a0 : Nat} {w : XW} {R9 : (Int32 × XW)} (h : fX4_sum a0 w = some R9) : xis w a0 4 = true := by
  unfold fX4_sum at h
  rcases xite h with ⟨hc, h⟩ | ⟨hc, h⟩
  · exact hc
  · exact absurd h (by simp)
theorem np_X4_sum : (parseMethodDescriptor yX4_sum.desc).map (fun d => d.parameters.length) = some 0 := by decide +kernel
theorem hy_X4_sum : yX4_sum.cls ≠ "java/lang/invoke/MethodHandle" ∧ yX4_sum.cls ≠ "java/lang/invoke/VarHandle" := ⟨by decide +kernel, by decide +kernel⟩
set_option maxRecDepth 20000 in
theorem eX4_sum {cx : CX} {a0 : Nat} {w : XW} {R9 : (Int32 × XW)} (h : fX4_sum a0 w = some R9) : Ct yX4_sum cX4_sum 1 (some .int) 0 0 cx [.ref a0] w (some (.int R9.1)) R9.2 := by
  refine Ct_of (by decide +kernel) (Nat.le_of_ble_eq_true rfl) (fun K B hR => ?_)
  rw [fX4_sum] at h
  show Wx K cx 1 w.length 0 [(0, .ref a0)] [] w
  rcases xite h with ⟨hc, h⟩ | ⟨hc, h⟩
  · skip
    refine x_aload_n (pc := 0) B 0 dX4_sum_0 rfl rfl ?_
    obtain ⟨v1, hv, h⟩ := xbind h
    refine x_getR (k0 := 11) (pc := 1) B dX4_sum_1 rfl xi_4 (by decide) ⟨rfl, rfl, rfl⟩ xt_613 hv ?_
    refine x_iconst (pc := 4) B dX4_sum_4 xk_iconst_0 ?_
    obtain ⟨v2, hv, h⟩ := xbind h
    refine x_iald (pc := 5) B dX4_sum_5 hv ?_
    refine x_aload_n (pc := 6) B 0 dX4_sum_6 rfl rfl ?_
    obtain ⟨v3, hv, h⟩ := xbind h
    refine x_getR (k0 := 11) (pc := 7) B dX4_sum_7 rfl xi_4 (by decide) ⟨rfl, rfl, rfl⟩ xt_613 hv ?_
    refine x_iconst (pc := 10) B dX4_sum_10 xk_iconst_1 ?_
    obtain ⟨v4, hv, h⟩ := xbind h
    refine x_iald (pc := 11) B dX4_sum_11 hv ?_
    refine x_iadd (pc := 12) B dX4_sum_12 ?_
    refine x_aload_n (pc := 13) B 0 dX4_sum_13 rfl rfl ?_
    obtain ⟨v5, hv, h⟩ := xbind h
    refine x_getR (k0 := 11) (pc := 14) B dX4_sum_14 rfl xi_4 (by decide) ⟨rfl, rfl, rfl⟩ xt_613 hv ?_
    refine x_iconst (pc := 17) B dX4_sum_17 xk_iconst_2 ?_
    obtain ⟨v6, hv, h⟩ := xbind h
    refine x_iald (pc := 18) B dX4_sum_18 hv ?_
    refine x_iadd (pc := 19) B dX4_sum_19 ?_
    exact x_iret (pc := 20) B hR dX4_sum_20 (xzI _) h
  · exact absurd h (by simp)
def fX4_common_13 : Nat → Int32 → Int32 → XW → Option (Int32 × XW)
  | 0, _, _, _ => none
  | g + 1, i2, i3, w =>
    if i2 ≤ (0 : Int32) then
      some (i3, w)
    else
    if i2 = 0 then none else
    fX4_common_13 g (i3 - i3 / i2 * i2) i2 w
set_option maxRecDepth 20000 in
theorem pX4_common_13 {K : KX} {cx : CX} {nn : Nat} {R9 : Int32 × XW} (B : XB K cx RX4 cX4_common 5 nn 0 0) (hR : XR K cx nn (some .int) (some (.int R9.1)) R9.2) : ∀ (g : Nat) (i2 : Int32) (i3 : Int32) (w : XW), fX4_common_13 g i2 i3 w = some R9 → Wx K cx 5 nn 13 [(2, .int i2), (3, .int i3)] [] w := by
  intro g
  induction g with
  | zero =>
    intro i2 i3 w h
    exact absurd (show (none : Option (Int32 × XW)) = some R9 from h) (by simp)
  | succ g ih =>
    intro i2 i3 w h
    rw [fX4_common_13] at h
    refine x_iload_n (pc := 13) B 0 dX4_common_13 rfl rfl ?_
    rcases xite h with ⟨hc, h⟩ | ⟨hc, h⟩
    · refine x_if_le_t (tgt := 30) (pc := 14) B dX4_common_14 (by decide) hc ?_
      refine x_iload_n (pc := 30) B 1 dX4_common_30 rfl rfl ?_
      exact x_iret (pc := 31) B hR dX4_common_31 (xzI _) h
    · refine x_if_le_f (pc := 14) B 30 dX4_common_14 (by decide) hc ?_
      refine x_iload_n (pc := 17) B 1 dX4_common_17 rfl rfl ?_
      refine x_iload_n (pc := 18) B 0 dX4_common_18 rfl rfl ?_
      rcases xite h with ⟨hc, h⟩ | ⟨hc, h⟩
      · exact absurd h (by simp)
      refine x_irem (pc := 19) B dX4_common_19 hc ?_
      refine x_istore (L1 := [(4, .int (i3 - i3 / i2 * i2)), (2, .int i2), (3, .int i3)]) (pc := 20) B dX4_common_20 (by decide) rfl ?_
      refine x_iload_n (pc := 22) B 1 dX4_common_22 rfl rfl ?_
      refine x_istore_n (L1 := [(3, .int i2), (4, .int (i3 - i3 / i2 * i2)), (2, .int i2)]) (pc := 23) B dX4_common_23 rfl (by decide) rfl ?_
      refine x_iload (pc := 24) B 1 dX4_common_24 rfl ?_
      refine x_istore_n (L1 := [(2, .int (i3 - i3 / i2 * i2)), (3, .int i2), (4, .int (i3 - i3 / i2 * i2))]) (pc := 26) B dX4_common_26 rfl (by decide) rfl ?_
      refine x_goto (tgt := 13) (pc := 27) B dX4_common_27 (by decide) ?_
      refine x_sub (L1 := [(2, .int (i3 - i3 / i2 * i2)), (3, .int i2)]) [0, 1] rfl ?_
      exact ih (i3 - i3 / i2 * i2) i2 w h
def fX4_common_10 (i1 : Int32) (s0 : Int32) (w : XW) : Option (Int32 × XW) :=
  fX4_common_13 1000 s0 i1 w
set_option maxRecDepth 20000 in
theorem pX4_common_10 {K : KX} {cx : CX} {nn : Nat} {R9 : Int32 × XW} (B : XB K cx RX4 cX4_common 5 nn 0 0) (hR : XR K cx nn (some .int) (some (.int R9.1)) R9.2) : ∀ (i1 : Int32) (s0 : Int32) (w : XW), fX4_common_10 i1 s0 w = some R9 → Wx K cx 5 nn 10 [(1, .int i1)] [.int s0] w := by
  intro i1 s0 w h
  rw [fX4_common_10] at h
  refine x_istore_n (L1 := [(2, .int s0), (1, .int i1)]) (pc := 10) B dX4_common_10 rfl (by decide) rfl ?_
  refine x_iload_n (pc := 11) B 1 dX4_common_11 rfl rfl ?_
  refine x_istore_n (L1 := [(3, .int i1), (2, .int s0), (1, .int i1)]) (pc := 12) B dX4_common_12 rfl (by decide) rfl ?_
  refine x_sub (L1 := [(2, .int s0), (3, .int i1)]) [1, 0] rfl ?_
  exact pX4_common_13 B hR 1000 s0 i1 w h
def fX4_common (i0 : Int32) (i1 : Int32) (w : XW) : Option (Int32 × XW) :=
  if (0 : Int32) ≤ i0 then
    fX4_common_10 i1 i0 w
  else
  fX4_common_10 i1 (-i0) w
theorem np_X4_common : (parseMethodDescriptor yX4_common.desc).map (fun d => d.parameters.length) = some 2 := by decide +kernel
theorem hy_X4_common : yX4_common.cls ≠ "java/lang/invoke/MethodHandle" ∧ yX4_common.cls ≠ "java/lang/invoke/VarHandle" := ⟨by decide +kernel, by decide +kernel⟩
set_option maxRecDepth 20000 in
theorem eX4_common {cx : CX} {i0 : Int32} {i1 : Int32} {w : XW} {R9 : (Int32 × XW)} (h : fX4_common i0 i1 w = some R9) : Ct yX4_common cX4_common 5 (some .int) 0 0 cx [.int i0, .int i1] w (some (.int R9.1)) R9.2 := by
  refine Ct_of (by decide +kernel) (Nat.le_of_ble_eq_true rfl) (fun K B hR => ?_)
  rw [fX4_common] at h
  show Wx K cx 5 w.length 0 [(0, .int i0), (1, .int i1)] [] w
  refine x_iload_n (pc := 0) B 0 dX4_common_0 rfl rfl ?_
  rcases xite h with ⟨hc, h⟩ | ⟨hc, h⟩
  · refine x_if_ge_t (tgt := 9) (pc := 1) B dX4_common_1 (by decide) hc ?_
    refine x_iload_n (pc := 9) B 0 dX4_common_9 rfl rfl ?_
    refine x_sub (L1 := [(1, .int i1)]) [1] rfl ?_
    exact pX4_common_10 B hR i1 i0 w h
  · refine x_if_ge_f (pc := 1) B 9 dX4_common_1 (by decide) hc ?_
    refine x_iload_n (pc := 4) B 0 dX4_common_4 rfl rfl ?_
    refine x_ineg (pc := 5) B dX4_common_5 ?_
    refine x_goto (tgt := 10) (pc := 6) B dX4_common_6 (by decide) ?_
    refine x_sub (L1 := [(1, .int i1)]) [1] rfl ?_
    exact pX4_common_10 B hR i1 (-i0) w h
def fX4_belief (a0 : Nat) (i1 : Int32) (i2 : Int32) (i3 : Int32) (w : XW) : Option (Int32 × XW) := if xis w a0 4 = true then
  (fX4_isOne i1 w).bind fun q1 =>
  if q1.1 = (0 : Int32) then
    some ((-1 : Int32), q1.2)
  else
  (fX4_isOne i2 q1.2).bind fun q2 =>
  if q2.1 = (0 : Int32) then
    some ((-1 : Int32), q2.2)
  else
  (fX4_in i3 (0 : Int32) (1 : Int32) q2.2).bind fun q3 =>
  if q3.1 = (0 : Int32) then
    some ((-2 : Int32), q3.2)
  else
  (fX4_looks a0 q3.2).bind fun q4 =>
  (fX4_believes a0 i1 q4).bind fun q5 =>
  (xgR q5 a0 4 11).bind fun v6 =>
  (xaI q5 v6 i2).bind fun v7 =>
  (fX4_sum a0 q5).bind fun q8 =>
  (fX4_common v7 q8.1 q8.2).bind fun q9 =>
  if i3 = (0 : Int32) then
    (xgR q9.2 a0 4 11).bind fun v10 =>
    (xaI q9.2 v10 i2).bind fun v11 =>
    if q9.1 = 0 then none else
    some ((v11 / q9.1), q9.2)
  else
  (fX4_sum a0 q9.2).bind fun q12 =>
  if q9.1 = 0 then none else
  some ((q12.1 / q9.1), q12.2)
  else none
theorem iX4_belief {a0 : Nat} {i1 : Int32} {i2 : Int32} {i3 : Int32} {w : XW} {R9 : (Int32 × XW)} (h : fX4_belief a0 i1 i2 i3 w = some R9) : xis w a0 4 = true := by
  unfold fX4_belief at h
  rcases xite h with ⟨hc, h⟩ | ⟨hc, h⟩
  · exact hc
  · exact absurd h (by simp)
theorem np_X4_belief : (parseMethodDescriptor yX4_belief.desc).map (fun d => d.parameters.length) = some 3 := by decide +kernel
theorem hy_X4_belief : yX4_belief.cls ≠ "java/lang/invoke/MethodHandle" ∧ yX4_belief.cls ≠ "java/lang/invoke/VarHandle" := ⟨by decide +kernel, by decide +kernel⟩
set_option maxRecDepth 20000 in
theorem eX4_belief {cx : CX} {a0 : Nat} {i1 : Int32} {i2 : Int32} {i3 : Int32} {w : XW} {R9 : (Int32 × XW)} (h : fX4_belief a0 i1 i2 i3 w = some R9) : Ct yX4_belief cX4_belief 5 (some .int) 3 67 cx [.ref a0, .int i1, .int i2, .int i3] w (some (.int R9.1)) R9.2 := by
  refine Ct_of (by decide +kernel) (Nat.le_of_ble_eq_true rfl) (fun K B hR => ?_)
  rw [fX4_belief] at h
  show Wx K cx 5 w.length 0 [(0, .ref a0), (1, .int i1), (2, .int i2), (3, .int i3)] [] w
  rcases xite h with ⟨hc, h⟩ | ⟨hc, h⟩
  · skip
    refine x_iload_n (pc := 0) B 1 dX4_belief_0 rfl rfl ?_
    obtain ⟨q1, hq, h⟩ := xbind h
    refine x_callS1 (st := []) (pc := 1) B dX4_belief_1 (eX4_isOne hq) xt_662 xt_58 np_X4_isOne hy_X4_isOne (Nat.le_of_ble_eq_true rfl) (Nat.le_of_ble_eq_true rfl) (Nat.le_of_ble_eq_true rfl) xt_661 xt_660 rfl ?_
    rcases xite h with ⟨hc, h⟩ | ⟨hc, h⟩
    · refine x_if_eq_t (tgt := 14) (pc := 4) B dX4_belief_4 (by decide) hc ?_
      refine x_iconst (pc := 14) B dX4_belief_14 xk_iconst_m1 ?_
      exact x_iret (pc := 15) B hR dX4_belief_15 (xzI _) h
    · refine x_if_eq_f (pc := 4) B 14 dX4_belief_4 (by decide) hc ?_
      refine x_iload_n (pc := 7) B 2 dX4_belief_7 rfl rfl ?_
      obtain ⟨q2, hq, h⟩ := xbind h
      refine x_callS1 (st := []) (pc := 8) B dX4_belief_8 (eX4_isOne hq) xt_662 xt_58 np_X4_isOne hy_X4_isOne (Nat.le_of_ble_eq_true rfl) (Nat.le_of_ble_eq_true rfl) (Nat.le_of_ble_eq_true rfl) xt_661 xt_660 rfl ?_
      rcases xite h with ⟨hc, h⟩ | ⟨hc, h⟩
      · refine x_if_ne_f (pc := 11) B 16 dX4_belief_11 (by decide) hc ?_
        refine x_iconst (pc := 14) B dX4_belief_14 xk_iconst_m1 ?_
        exact x_iret (pc := 15) B hR dX4_belief_15 (xzI _) h
      · refine x_if_ne_t (tgt := 16) (pc := 11) B dX4_belief_11 (by decide) hc ?_
        refine x_iload_n (pc := 16) B 3 dX4_belief_16 rfl rfl ?_
        refine x_iconst (pc := 17) B dX4_belief_17 xk_iconst_0 ?_
        refine x_iconst (pc := 18) B dX4_belief_18 xk_iconst_1 ?_
        obtain ⟨q3, hq, h⟩ := xbind h
        refine x_callS1 (st := []) (pc := 19) B dX4_belief_19 (eX4_in hq) xt_639 xt_58 np_X4_in hy_X4_in (Nat.le_of_ble_eq_true rfl) (Nat.le_of_ble_eq_true rfl) (Nat.le_of_ble_eq_true rfl) xt_638 xt_637 rfl ?_
        rcases xite h with ⟨hc, h⟩ | ⟨hc, h⟩
        · refine x_if_ne_f (pc := 22) B 28 dX4_belief_22 (by decide) hc ?_
          refine x_bipush (pc := 25) B dX4_belief_25 xk_bipush_m2 ?_
          exact x_iret (pc := 27) B hR dX4_belief_27 (xzI _) h
        · refine x_if_ne_t (tgt := 28) (pc := 22) B dX4_belief_22 (by decide) hc ?_
          refine x_aload_n (pc := 28) B 0 dX4_belief_28 rfl rfl ?_
          obtain ⟨q4, hq, h⟩ := xbind h
          refine x_callV0 (st := []) (pc := 29) B dX4_belief_29 (eX4_looks hq) xt_812 xt_58 np_X4_looks hy_X4_looks (Nat.le_of_ble_eq_true rfl) (Nat.le_of_ble_eq_true rfl) (Nat.le_of_ble_eq_true rfl) xt_811 xt_42 xt_809 rfl (iX4_looks hq) rfl ?_
          refine x_aload_n (pc := 32) B 0 dX4_belief_32 rfl rfl ?_
          refine x_iload_n (pc := 33) B 1 dX4_belief_33 rfl rfl ?_
          obtain ⟨q5, hq, h⟩ := xbind h
          refine x_callV0 (st := []) (pc := 34) B dX4_belief_34 (eX4_believes hq) xt_740 xt_58 np_X4_believes hy_X4_believes (Nat.le_of_ble_eq_true rfl) (Nat.le_of_ble_eq_true rfl) (Nat.le_of_ble_eq_true rfl) xt_739 xt_29 xt_737 rfl (iX4_believes hq) rfl ?_
          refine x_aload_n (pc := 37) B 0 dX4_belief_37 rfl rfl ?_
          obtain ⟨v6, hv, h⟩ := xbind h
          refine x_getR (k0 := 11) (pc := 38) B dX4_belief_38 rfl xi_4 (by decide) ⟨rfl, rfl, rfl⟩ xt_613 hv ?_
          refine x_iload_n (pc := 41) B 2 dX4_belief_41 rfl rfl ?_
          obtain ⟨v7, hv, h⟩ := xbind h
          refine x_iald (pc := 42) B dX4_belief_42 hv ?_
          refine x_aload_n (pc := 43) B 0 dX4_belief_43 rfl rfl ?_
          obtain ⟨q8, hq, h⟩ := xbind h
          refine x_callV1 (st := [.int v7]) (pc := 44) B dX4_belief_44 (eX4_sum hq) xt_824 xt_58 np_X4_sum hy_X4_sum (Nat.le_of_ble_eq_true rfl) (Nat.le_of_ble_eq_true rfl) (Nat.le_of_ble_eq_true rfl) xt_823 xt_43 xt_821 rfl (iX4_sum hq) rfl ?_
          obtain ⟨q9, hq, h⟩ := xbind h
          refine x_callS1 (st := []) (pc := 47) B dX4_belief_47 (eX4_common hq) xt_827 xt_58 np_X4_common hy_X4_common (Nat.le_of_ble_eq_true rfl) (Nat.le_of_ble_eq_true rfl) (Nat.le_of_ble_eq_true rfl) xt_826 xt_825 rfl ?_
          refine x_istore (L1 := [(4, .int q9.1), (0, .ref a0), (1, .int i1), (2, .int i2), (3, .int i3)]) (pc := 50) B dX4_belief_50 (by decide) rfl ?_
          refine x_iload_n (pc := 52) B 4 dX4_belief_52 rfl rfl ?_
          rcases xite h with ⟨hc, h⟩ | ⟨hc, h⟩
          · refine x_if_ne_f (pc := 53) B 65 dX4_belief_53 (by decide) hc ?_
            refine x_aload_n (pc := 56) B 1 dX4_belief_56 rfl rfl ?_
            obtain ⟨v10, hv, h⟩ := xbind h
            refine x_getR (k0 := 11) (pc := 57) B dX4_belief_57 rfl xi_4 (by decide) ⟨rfl, rfl, rfl⟩ xt_613 hv ?_
            refine x_iload_n (pc := 60) B 3 dX4_belief_60 rfl rfl ?_
            obtain ⟨v11, hv, h⟩ := xbind h
            refine x_iald (pc := 61) B dX4_belief_61 hv ?_
            refine x_goto (tgt := 69) (pc := 62) B dX4_belief_62 (by decide) ?_
            refine x_iload (pc := 69) B 0 dX4_belief_69 rfl ?_
            rcases xite h with ⟨hc, h⟩ | ⟨hc, h⟩
            · exact absurd h (by simp)
            refine x_idiv (pc := 71) B dX4_belief_71 hc ?_
            exact x_iret (pc := 72) B hR dX4_belief_72 (xzI _) h
          · refine x_if_ne_t (tgt := 65) (pc := 53) B dX4_belief_53 (by decide) hc ?_
            refine x_aload_n (pc := 65) B 1 dX4_belief_65 rfl rfl ?_
            obtain ⟨q12, hq, h⟩ := xbind h
            refine x_callV1 (st := []) (pc := 66) B dX4_belief_66 (eX4_sum hq) xt_824 xt_58 np_X4_sum hy_X4_sum (Nat.le_of_ble_eq_true rfl) (Nat.le_of_ble_eq_true rfl) (Nat.le_of_ble_eq_true rfl) xt_823 xt_43 xt_821 rfl (iX4_sum hq) rfl ?_
            refine x_iload (pc := 69) B 0 dX4_belief_69 rfl ?_
            rcases xite h with ⟨hc, h⟩ | ⟨hc, h⟩
            · exact absurd h (by simp)
            refine x_idiv (pc := 71) B dX4_belief_71 hc ?_
            exact x_iret (pc := 72) B hR dX4_belief_72 (xzI _) h
  · exact absurd h (by simp)
def fX4_mean (a0 : Nat) (i1 : Int32) (i2 : Int32) (i3 : Int32) (w : XW) : Option (Int32 × XW) := if xis w a0 4 = true then
  (fX4_isOne i1 w).bind fun q1 =>
  if q1.1 = (0 : Int32) then
    some ((-1 : Int32), q1.2)
  else
  (fX4_isOne i2 q1.2).bind fun q2 =>
  if q2.1 = (0 : Int32) then
    some ((-1 : Int32), q2.2)
  else
  (fX4_in i3 (0 : Int32) (1 : Int32) q2.2).bind fun q3 =>
  if q3.1 = (0 : Int32) then
    some ((-2 : Int32), q3.2)
  else
  (fX4_looks a0 q3.2).bind fun q4 =>
  (fX4_believes a0 i1 q4).bind fun q5 =>
  (fX4_worth a0 i1 i2 q5).bind fun q6 =>
  (fX4_sum a0 q6.2).bind fun q7 =>
  (fX4_common q6.1 q7.1 q7.2).bind fun q8 =>
  if i3 = (0 : Int32) then
    if q8.1 = 0 then none else
    some (((q6.1 / q8.1) + (1000 : Int32)), q8.2)
  else
  (fX4_sum a0 q8.2).bind fun q9 =>
  if q8.1 = 0 then none else
  some ((q9.1 / q8.1), q9.2)
  else none
theorem iX4_mean {a0 : Nat} {i1 : Int32} {i2 : Int32} {i3 : Int32} {w : XW} {R9 : (Int32 × XW)} (h : fX4_mean a0 i1 i2 i3 w = some R9) : xis w a0 4 = true := by
  unfold fX4_mean at h
  rcases xite h with ⟨hc, h⟩ | ⟨hc, h⟩
  · exact hc
  · exact absurd h (by simp)
theorem np_X4_mean : (parseMethodDescriptor yX4_mean.desc).map (fun d => d.parameters.length) = some 3 := by decide +kernel
theorem hy_X4_mean : yX4_mean.cls ≠ "java/lang/invoke/MethodHandle" ∧ yX4_mean.cls ≠ "java/lang/invoke/VarHandle" := ⟨by decide +kernel, by decide +kernel⟩
set_option maxRecDepth 20000 in
theorem eX4_mean {cx : CX} {a0 : Nat} {i1 : Int32} {i2 : Int32} {i3 : Int32} {w : XW} {R9 : (Int32 × XW)} (h : fX4_mean a0 i1 i2 i3 w = some R9) : Ct yX4_mean cX4_mean 6 (some .int) 3 67 cx [.ref a0, .int i1, .int i2, .int i3] w (some (.int R9.1)) R9.2 := by
  refine Ct_of (by decide +kernel) (Nat.le_of_ble_eq_true rfl) (fun K B hR => ?_)
  rw [fX4_mean] at h
  show Wx K cx 6 w.length 0 [(0, .ref a0), (1, .int i1), (2, .int i2), (3, .int i3)] [] w
  rcases xite h with ⟨hc, h⟩ | ⟨hc, h⟩
  · skip
    refine x_iload_n (pc := 0) B 1 dX4_mean_0 rfl rfl ?_
    obtain ⟨q1, hq, h⟩ := xbind h
    refine x_callS1 (st := []) (pc := 1) B dX4_mean_1 (eX4_isOne hq) xt_662 xt_58 np_X4_isOne hy_X4_isOne (Nat.le_of_ble_eq_true rfl) (Nat.le_of_ble_eq_true rfl) (Nat.le_of_ble_eq_true rfl) xt_661 xt_660 rfl ?_
    rcases xite h with ⟨hc, h⟩ | ⟨hc, h⟩
    · refine x_if_eq_t (tgt := 14) (pc := 4) B dX4_mean_4 (by decide) hc ?_
      refine x_iconst (pc := 14) B dX4_mean_14 xk_iconst_m1 ?_
      exact x_iret (pc := 15) B hR dX4_mean_15 (xzI _) h
    · refine x_if_eq_f (pc := 4) B 14 dX4_mean_4 (by decide) hc ?_
      refine x_iload_n (pc := 7) B 2 dX4_mean_7 rfl rfl ?_
      obtain ⟨q2, hq, h⟩ := xbind h
      refine x_callS1 (st := []) (pc := 8) B dX4_mean_8 (eX4_isOne hq) xt_662 xt_58 np_X4_isOne hy_X4_isOne (Nat.le_of_ble_eq_true rfl) (Nat.le_of_ble_eq_true rfl) (Nat.le_of_ble_eq_true rfl) xt_661 xt_660 rfl ?_
      rcases xite h with ⟨hc, h⟩ | ⟨hc, h⟩
      · refine x_if_ne_f (pc := 11) B 16 dX4_mean_11 (by decide) hc ?_
        refine x_iconst (pc := 14) B dX4_mean_14 xk_iconst_m1 ?_
        exact x_iret (pc := 15) B hR dX4_mean_15 (xzI _) h
      · refine x_if_ne_t (tgt := 16) (pc := 11) B dX4_mean_11 (by decide) hc ?_
        refine x_iload_n (pc := 16) B 3 dX4_mean_16 rfl rfl ?_
        refine x_iconst (pc := 17) B dX4_mean_17 xk_iconst_0 ?_
        refine x_iconst (pc := 18) B dX4_mean_18 xk_iconst_1 ?_
        obtain ⟨q3, hq, h⟩ := xbind h
        refine x_callS1 (st := []) (pc := 19) B dX4_mean_19 (eX4_in hq) xt_639 xt_58 np_X4_in hy_X4_in (Nat.le_of_ble_eq_true rfl) (Nat.le_of_ble_eq_true rfl) (Nat.le_of_ble_eq_true rfl) xt_638 xt_637 rfl ?_
        rcases xite h with ⟨hc, h⟩ | ⟨hc, h⟩
        · refine x_if_ne_f (pc := 22) B 28 dX4_mean_22 (by decide) hc ?_
          refine x_bipush (pc := 25) B dX4_mean_25 xk_bipush_m2 ?_
          exact x_iret (pc := 27) B hR dX4_mean_27 (xzI _) h
        · refine x_if_ne_t (tgt := 28) (pc := 22) B dX4_mean_22 (by decide) hc ?_
          refine x_aload_n (pc := 28) B 0 dX4_mean_28 rfl rfl ?_
          obtain ⟨q4, hq, h⟩ := xbind h
          refine x_callV0 (st := []) (pc := 29) B dX4_mean_29 (eX4_looks hq) xt_812 xt_58 np_X4_looks hy_X4_looks (Nat.le_of_ble_eq_true rfl) (Nat.le_of_ble_eq_true rfl) (Nat.le_of_ble_eq_true rfl) xt_811 xt_42 xt_809 rfl (iX4_looks hq) rfl ?_
          refine x_aload_n (pc := 32) B 0 dX4_mean_32 rfl rfl ?_
          refine x_iload_n (pc := 33) B 1 dX4_mean_33 rfl rfl ?_
          obtain ⟨q5, hq, h⟩ := xbind h
          refine x_callV0 (st := []) (pc := 34) B dX4_mean_34 (eX4_believes hq) xt_740 xt_58 np_X4_believes hy_X4_believes (Nat.le_of_ble_eq_true rfl) (Nat.le_of_ble_eq_true rfl) (Nat.le_of_ble_eq_true rfl) xt_739 xt_29 xt_737 rfl (iX4_believes hq) rfl ?_
          refine x_aload_n (pc := 37) B 0 dX4_mean_37 rfl rfl ?_
          refine x_iload_n (pc := 38) B 1 dX4_mean_38 rfl rfl ?_
          refine x_iload_n (pc := 39) B 2 dX4_mean_39 rfl rfl ?_
          obtain ⟨q6, hq, h⟩ := xbind h
          refine x_callV1 (st := []) (pc := 40) B dX4_mean_40 (eX4_worth hq) xt_752 xt_58 np_X4_worth hy_X4_worth (Nat.le_of_ble_eq_true rfl) (Nat.le_of_ble_eq_true rfl) (Nat.le_of_ble_eq_true rfl) xt_751 xt_32 xt_749 rfl (iX4_worth hq) rfl ?_
          refine x_istore (L1 := [(4, .int q6.1), (0, .ref a0), (1, .int i1), (2, .int i2), (3, .int i3)]) (pc := 43) B dX4_mean_43 (by decide) rfl ?_
          refine x_iload (pc := 45) B 0 dX4_mean_45 rfl ?_
          refine x_aload_n (pc := 47) B 1 dX4_mean_47 rfl rfl ?_
          obtain ⟨q7, hq, h⟩ := xbind h
          refine x_callV1 (st := [.int q6.1]) (pc := 48) B dX4_mean_48 (eX4_sum hq) xt_824 xt_58 np_X4_sum hy_X4_sum (Nat.le_of_ble_eq_true rfl) (Nat.le_of_ble_eq_true rfl) (Nat.le_of_ble_eq_true rfl) xt_823 xt_43 xt_821 rfl (iX4_sum hq) rfl ?_
          obtain ⟨q8, hq, h⟩ := xbind h
          refine x_callS1 (st := []) (pc := 51) B dX4_mean_51 (eX4_common hq) xt_827 xt_58 np_X4_common hy_X4_common (Nat.le_of_ble_eq_true rfl) (Nat.le_of_ble_eq_true rfl) (Nat.le_of_ble_eq_true rfl) xt_826 xt_825 rfl ?_
          refine x_istore (L1 := [(5, .int q8.1), (4, .int q6.1), (0, .ref a0), (1, .int i1), (2, .int i2), (3, .int i3)]) (pc := 54) B dX4_mean_54 (by decide) rfl ?_
          refine x_iload_n (pc := 56) B 5 dX4_mean_56 rfl rfl ?_
          rcases xite h with ⟨hc, h⟩ | ⟨hc, h⟩
          · refine x_if_ne_f (pc := 57) B 72 dX4_mean_57 (by decide) hc ?_
            refine x_iload (pc := 60) B 1 dX4_mean_60 rfl ?_
            refine x_iload (pc := 62) B 0 dX4_mean_62 rfl ?_
            rcases xite h with ⟨hc, h⟩ | ⟨hc, h⟩
            · exact absurd h (by simp)
            refine x_idiv (pc := 64) B dX4_mean_64 hc ?_
            refine x_sipush (pc := 65) B dX4_mean_65 xk_sipush_1000 ?_
            refine x_iadd (pc := 68) B dX4_mean_68 ?_
            refine x_goto (tgt := 79) (pc := 69) B dX4_mean_69 (by decide) ?_
            exact x_iret (pc := 79) B hR dX4_mean_79 (xzI _) h
          · refine x_if_ne_t (tgt := 72) (pc := 57) B dX4_mean_57 (by decide) hc ?_
            refine x_aload_n (pc := 72) B 2 dX4_mean_72 rfl rfl ?_
            obtain ⟨q9, hq, h⟩ := xbind h
            refine x_callV1 (st := []) (pc := 73) B dX4_mean_73 (eX4_sum hq) xt_824 xt_58 np_X4_sum hy_X4_sum (Nat.le_of_ble_eq_true rfl) (Nat.le_of_ble_eq_true rfl) (Nat.le_of_ble_eq_true rfl) xt_823 xt_43 xt_821 rfl (iX4_sum hq) rfl ?_
            refine x_iload (pc := 76) B 0 dX4_mean_76 rfl ?_
            rcases xite h with ⟨hc, h⟩ | ⟨hc, h⟩
            · exact absurd h (by simp)
            refine x_idiv (pc := 78) B dX4_mean_78 hc ?_
            exact x_iret (pc := 79) B hR dX4_mean_79 (xzI _) h
  · exact absurd h (by simp)
def fX4_why (a0 : Nat) (i1 : Int32) (w : XW) : Option (Int32 × XW) := if xis w a0 4 = true then
  (fX4_in i1 (0 : Int32) (1 : Int32) w).bind fun q1 =>
  if q1.1 = (0 : Int32) then
    some ((-2 : Int32), q1.2)
  else
  (fX4_looks a0 q1.2).bind fun q2 =>
  (fX4_unhappy a0 q2).bind fun q3 =>
  (fX4_wrong a0 q3.2).bind fun q4 =>
  if i1 = (0 : Int32) then
    if q3.1 = (-6 : Int32) then
      if q4.1 = (-6 : Int32) then
        some ((0 : Int32), q4.2)
      else
      some ((2 : Int32), q4.2)
    else
    some ((1 : Int32), q4.2)
  else
  if q3.1 = (-6 : Int32) then
    some (q4.1, q4.2)
  else
  some (q3.1, q4.2)
  else none
theorem iX4_why {a0 : Nat} {i1 : Int32} {w : XW} {R9 : (Int32 × XW)} (h : fX4_why a0 i1 w = some R9) : xis w a0 4 = true := by
  unfold fX4_why at h
  rcases xite h with ⟨hc, h⟩ | ⟨hc, h⟩
  · exact hc
  · exact absurd h (by simp)
theorem np_X4_why : (parseMethodDescriptor yX4_why.desc).map (fun d => d.parameters.length) = some 1 := by decide +kernel
theorem hy_X4_why : yX4_why.cls ≠ "java/lang/invoke/MethodHandle" ∧ yX4_why.cls ≠ "java/lang/invoke/VarHandle" := ⟨by decide +kernel, by decide +kernel⟩
set_option maxRecDepth 20000 in
theorem eX4_why {cx : CX} {a0 : Nat} {i1 : Int32} {w : XW} {R9 : (Int32 × XW)} (h : fX4_why a0 i1 w = some R9) : Ct yX4_why cX4_why 4 (some .int) 5 114 cx [.ref a0, .int i1] w (some (.int R9.1)) R9.2 := by
  refine Ct_of (by decide +kernel) (Nat.le_of_ble_eq_true rfl) (fun K B hR => ?_)
  rw [fX4_why] at h
  show Wx K cx 4 w.length 0 [(0, .ref a0), (1, .int i1)] [] w
  rcases xite h with ⟨hc, h⟩ | ⟨hc, h⟩
  · skip
    refine x_iload_n (pc := 0) B 1 dX4_why_0 rfl rfl ?_
    refine x_iconst (pc := 1) B dX4_why_1 xk_iconst_0 ?_
    refine x_iconst (pc := 2) B dX4_why_2 xk_iconst_1 ?_
    obtain ⟨q1, hq, h⟩ := xbind h
    refine x_callS1 (st := []) (pc := 3) B dX4_why_3 (eX4_in hq) xt_639 xt_58 np_X4_in hy_X4_in (Nat.le_of_ble_eq_true rfl) (Nat.le_of_ble_eq_true rfl) (Nat.le_of_ble_eq_true rfl) xt_638 xt_637 rfl ?_
    rcases xite h with ⟨hc, h⟩ | ⟨hc, h⟩
    · refine x_if_ne_f (pc := 6) B 12 dX4_why_6 (by decide) hc ?_
      refine x_bipush (pc := 9) B dX4_why_9 xk_bipush_m2 ?_
      exact x_iret (pc := 11) B hR dX4_why_11 (xzI _) h
    · refine x_if_ne_t (tgt := 12) (pc := 6) B dX4_why_6 (by decide) hc ?_
      refine x_aload_n (pc := 12) B 0 dX4_why_12 rfl rfl ?_
      obtain ⟨q2, hq, h⟩ := xbind h
      refine x_callV0 (st := []) (pc := 13) B dX4_why_13 (eX4_looks hq) xt_812 xt_58 np_X4_looks hy_X4_looks (Nat.le_of_ble_eq_true rfl) (Nat.le_of_ble_eq_true rfl) (Nat.le_of_ble_eq_true rfl) xt_811 xt_42 xt_809 rfl (iX4_looks hq) rfl ?_
      refine x_aload_n (pc := 16) B 0 dX4_why_16 rfl rfl ?_
      obtain ⟨q3, hq, h⟩ := xbind h
      refine x_callV1 (st := []) (pc := 17) B dX4_why_17 (eX4_unhappy hq) xt_712 xt_58 np_X4_unhappy hy_X4_unhappy (Nat.le_of_ble_eq_true rfl) (Nat.le_of_ble_eq_true rfl) (Nat.le_of_ble_eq_true rfl) xt_711 xt_22 xt_709 rfl (iX4_unhappy hq) rfl ?_
      refine x_istore_n (L1 := [(2, .int q3.1), (0, .ref a0), (1, .int i1)]) (pc := 20) B dX4_why_20 rfl (by decide) rfl ?_
      refine x_aload_n (pc := 21) B 1 dX4_why_21 rfl rfl ?_
      obtain ⟨q4, hq, h⟩ := xbind h
      refine x_callV1 (st := []) (pc := 22) B dX4_why_22 (eX4_wrong hq) xt_732 xt_58 np_X4_wrong hy_X4_wrong (Nat.le_of_ble_eq_true rfl) (Nat.le_of_ble_eq_true rfl) (Nat.le_of_ble_eq_true rfl) xt_731 xt_27 xt_729 rfl (iX4_wrong hq) rfl ?_
      refine x_istore_n (L1 := [(3, .int q4.1), (2, .int q3.1), (0, .ref a0), (1, .int i1)]) (pc := 25) B dX4_why_25 rfl (by decide) rfl ?_
      refine x_iload_n (pc := 26) B 3 dX4_why_26 rfl rfl ?_
      rcases xite h with ⟨hc, h⟩ | ⟨hc, h⟩
      · refine x_if_ne_f (pc := 27) B 54 dX4_why_27 (by decide) hc ?_
        refine x_iload_n (pc := 30) B 1 dX4_why_30 rfl rfl ?_
        refine x_bipush (pc := 31) B dX4_why_31 xk_bipush_m6 ?_
        rcases xite h with ⟨hc, h⟩ | ⟨hc, h⟩
        · refine x_icmp_eq_t (tgt := 40) (pc := 33) B dX4_why_33 (by decide) hc ?_
          refine x_iload_n (pc := 40) B 0 dX4_why_40 rfl rfl ?_
          refine x_bipush (pc := 41) B dX4_why_41 xk_bipush_m6 ?_
          rcases xite h with ⟨hc, h⟩ | ⟨hc, h⟩
          · refine x_icmp_eq_t (tgt := 50) (pc := 43) B dX4_why_43 (by decide) hc ?_
            refine x_iconst (pc := 50) B dX4_why_50 xk_iconst_0 ?_
            refine x_goto (tgt := 65) (pc := 51) B dX4_why_51 (by decide) ?_
            exact x_iret (pc := 65) B hR dX4_why_65 (xzI _) h
          · refine x_icmp_eq_f (pc := 43) B 50 dX4_why_43 (by decide) hc ?_
            refine x_iconst (pc := 46) B dX4_why_46 xk_iconst_2 ?_
            refine x_goto (tgt := 65) (pc := 47) B dX4_why_47 (by decide) ?_
            exact x_iret (pc := 65) B hR dX4_why_65 (xzI _) h
        · refine x_icmp_eq_f (pc := 33) B 40 dX4_why_33 (by decide) hc ?_
          refine x_iconst (pc := 36) B dX4_why_36 xk_iconst_1 ?_
          refine x_goto (tgt := 65) (pc := 37) B dX4_why_37 (by decide) ?_
          exact x_iret (pc := 65) B hR dX4_why_65 (xzI _) h
      · refine x_if_ne_t (tgt := 54) (pc := 27) B dX4_why_27 (by decide) hc ?_
        refine x_iload_n (pc := 54) B 1 dX4_why_54 rfl rfl ?_
        refine x_bipush (pc := 55) B dX4_why_55 xk_bipush_m6 ?_
        rcases xite h with ⟨hc, h⟩ | ⟨hc, h⟩
        · refine x_icmp_eq_t (tgt := 64) (pc := 57) B dX4_why_57 (by decide) hc ?_
          refine x_iload_n (pc := 64) B 0 dX4_why_64 rfl rfl ?_
          exact x_iret (pc := 65) B hR dX4_why_65 (xzI _) h
        · refine x_icmp_eq_f (pc := 57) B 64 dX4_why_57 (by decide) hc ?_
          refine x_iload_n (pc := 60) B 1 dX4_why_60 rfl rfl ?_
          refine x_goto (tgt := 65) (pc := 61) B dX4_why_61 (by decide) ?_
          exact x_iret (pc := 65) B hR dX4_why_65 (xzI _) h
  · exact absurd h (by simp)
def fX4_sentSet_4 : Nat → Nat → Int32 → Int32 → XW → Option (Int32 × XW)
  | 0, _, _, _, _ => none
  | g + 1, a0, i1, i2, w =>
    if (3 : Int32) ≤ i2 then
      some (i1, w)
    else
    (fX4_senders a0 i2 w).bind fun q1 =>
    if q1.1 = (0 : Int32) then
      fX4_sentSet_4 g a0 (i1 ||| (0 : Int32)) (i2 + (1 : Int32)) q1.2
    else
    fX4_sentSet_4 g a0 (i1 ||| ((1 : Int32) <<< (i2 &&& 31))) (i2 + (1 : Int32)) q1.2
set_option maxRecDepth 20000 in
theorem pX4_sentSet_4 {K : KX} {cx : CX} {nn : Nat} {R9 : Int32 × XW} (B : XB K cx RX4 cX4_sentSet 3 nn 2 44) (hR : XR K cx nn (some .int) (some (.int R9.1)) R9.2) : ∀ (g : Nat) (a0 : Nat) (i1 : Int32) (i2 : Int32) (w : XW), fX4_sentSet_4 g a0 i1 i2 w = some R9 → Wx K cx 3 nn 4 [(0, .ref a0), (1, .int i1), (2, .int i2)] [] w := by
  intro g
  induction g with
  | zero =>
    intro a0 i1 i2 w h
    exact absurd (show (none : Option (Int32 × XW)) = some R9 from h) (by simp)
  | succ g ih =>
    intro a0 i1 i2 w h
    rw [fX4_sentSet_4] at h
    refine x_iload_n (pc := 4) B 2 dX4_sentSet_4 rfl rfl ?_
    refine x_iconst (pc := 5) B dX4_sentSet_5 xk_iconst_3 ?_
    rcases xite h with ⟨hc, h⟩ | ⟨hc, h⟩
    · refine x_icmp_ge_t (tgt := 33) (pc := 6) B dX4_sentSet_6 (by decide) hc ?_
      refine x_iload_n (pc := 33) B 1 dX4_sentSet_33 rfl rfl ?_
      exact x_iret (pc := 34) B hR dX4_sentSet_34 (xzI _) h
    · refine x_icmp_ge_f (pc := 6) B 33 dX4_sentSet_6 (by decide) hc ?_
      refine x_iload_n (pc := 9) B 1 dX4_sentSet_9 rfl rfl ?_
      refine x_aload_n (pc := 10) B 0 dX4_sentSet_10 rfl rfl ?_
      refine x_iload_n (pc := 11) B 2 dX4_sentSet_11 rfl rfl ?_
      obtain ⟨q1, hq, h⟩ := xbind h
      refine x_callV1 (st := [.int i1]) (pc := 12) B dX4_sentSet_12 (eX4_senders hq) xt_744 xt_58 np_X4_senders hy_X4_senders (Nat.le_of_ble_eq_true rfl) (Nat.le_of_ble_eq_true rfl) (Nat.le_of_ble_eq_true rfl) xt_743 xt_30 xt_741 rfl (iX4_senders hq) rfl ?_
      rcases xite h with ⟨hc, h⟩ | ⟨hc, h⟩
      · refine x_if_ne_f (pc := 15) B 22 dX4_sentSet_15 (by decide) hc ?_
        refine x_iconst (pc := 18) B dX4_sentSet_18 xk_iconst_0 ?_
        refine x_goto (tgt := 25) (pc := 19) B dX4_sentSet_19 (by decide) ?_
        refine x_ior (pc := 25) B dX4_sentSet_25 ?_
        refine x_istore_n (L1 := [(1, .int (i1 ||| (0 : Int32))), (0, .ref a0), (2, .int i2)]) (pc := 26) B dX4_sentSet_26 rfl (by decide) rfl ?_
        refine x_iinc (L1 := [(2, .int (i2 + (1 : Int32))), (1, .int (i1 ||| (0 : Int32))), (0, .ref a0)]) (pc := 27) B 2 dX4_sentSet_27 rfl (congrArg _ xk_iconst_1) (by decide) rfl ?_
        refine x_goto (tgt := 4) (pc := 30) B dX4_sentSet_30 (by decide) ?_
        refine x_sub (L1 := [(0, .ref a0), (1, .int (i1 ||| (0 : Int32))), (2, .int (i2 + (1 : Int32)))]) [2, 1, 0] rfl ?_
        exact ih a0 (i1 ||| (0 : Int32)) (i2 + (1 : Int32)) q1.2 h
      · refine x_if_ne_t (tgt := 22) (pc := 15) B dX4_sentSet_15 (by decide) hc ?_
        refine x_iconst (pc := 22) B dX4_sentSet_22 xk_iconst_1 ?_
        refine x_iload_n (pc := 23) B 2 dX4_sentSet_23 rfl rfl ?_
        refine x_ishl (pc := 24) B dX4_sentSet_24 ?_
        refine x_ior (pc := 25) B dX4_sentSet_25 ?_
        refine x_istore_n (L1 := [(1, .int (i1 ||| ((1 : Int32) <<< (i2 &&& 31)))), (0, .ref a0), (2, .int i2)]) (pc := 26) B dX4_sentSet_26 rfl (by decide) rfl ?_
        refine x_iinc (L1 := [(2, .int (i2 + (1 : Int32))), (1, .int (i1 ||| ((1 : Int32) <<< (i2 &&& 31)))), (0, .ref a0)]) (pc := 27) B 2 dX4_sentSet_27 rfl (congrArg _ xk_iconst_1) (by decide) rfl ?_
        refine x_goto (tgt := 4) (pc := 30) B dX4_sentSet_30 (by decide) ?_
        refine x_sub (L1 := [(0, .ref a0), (1, .int (i1 ||| ((1 : Int32) <<< (i2 &&& 31)))), (2, .int (i2 + (1 : Int32)))]) [2, 1, 0] rfl ?_
        exact ih a0 (i1 ||| ((1 : Int32) <<< (i2 &&& 31))) (i2 + (1 : Int32)) q1.2 h
def fX4_sentSet (a0 : Nat) (w : XW) : Option (Int32 × XW) := if xis w a0 4 = true then
  fX4_sentSet_4 1000 a0 (0 : Int32) (0 : Int32) w
  else none
theorem iX4_sentSet {a0 : Nat} {w : XW} {R9 : (Int32 × XW)} (h : fX4_sentSet a0 w = some R9) : xis w a0 4 = true := by
  unfold fX4_sentSet at h
  rcases xite h with ⟨hc, h⟩ | ⟨hc, h⟩
  · exact hc
  · exact absurd h (by simp)
theorem np_X4_sentSet : (parseMethodDescriptor yX4_sentSet.desc).map (fun d => d.parameters.length) = some 0 := by decide +kernel
theorem hy_X4_sentSet : yX4_sentSet.cls ≠ "java/lang/invoke/MethodHandle" ∧ yX4_sentSet.cls ≠ "java/lang/invoke/VarHandle" := ⟨by decide +kernel, by decide +kernel⟩
set_option maxRecDepth 20000 in
theorem eX4_sentSet {cx : CX} {a0 : Nat} {w : XW} {R9 : (Int32 × XW)} (h : fX4_sentSet a0 w = some R9) : Ct yX4_sentSet cX4_sentSet 3 (some .int) 2 44 cx [.ref a0] w (some (.int R9.1)) R9.2 := by
  refine Ct_of (by decide +kernel) (Nat.le_of_ble_eq_true rfl) (fun K B hR => ?_)
  rw [fX4_sentSet] at h
  show Wx K cx 3 w.length 0 [(0, .ref a0)] [] w
  rcases xite h with ⟨hc, h⟩ | ⟨hc, h⟩
  · skip
    refine x_iconst (pc := 0) B dX4_sentSet_0 xk_iconst_0 ?_
    refine x_istore_n (L1 := [(1, .int (0 : Int32)), (0, .ref a0)]) (pc := 1) B dX4_sentSet_1 rfl (by decide) rfl ?_
    refine x_iconst (pc := 2) B dX4_sentSet_2 xk_iconst_0 ?_
    refine x_istore_n (L1 := [(2, .int (0 : Int32)), (1, .int (0 : Int32)), (0, .ref a0)]) (pc := 3) B dX4_sentSet_3 rfl (by decide) rfl ?_
    refine x_sub (L1 := [(0, .ref a0), (1, .int (0 : Int32)), (2, .int (0 : Int32))]) [2, 1, 0] rfl ?_
    exact pX4_sentSet_4 B hR 1000 a0 (0 : Int32) (0 : Int32) w h
  · exact absurd h (by simp)
def fX4_count (a0 : Nat) (i1 : Int32) (w : XW) : Option (Int32 × XW) := if xis w a0 4 = true then
  (fX4_in i1 (0 : Int32) (7 : Int32) w).bind fun q1 =>
  if q1.1 = (0 : Int32) then
    some ((-2 : Int32), q1.2)
  else
  (fX4_looks a0 q1.2).bind fun q2 =>
  if (3 : Int32) ≤ i1 then
    if (6 : Int32) ≤ i1 then
      if i1 = (6 : Int32) then
        (xgI q2 a0 4 6).bind fun v3 =>
        some (v3, q2)
      else
      (xgI q2 a0 4 2).bind fun v4 =>
      some (v4, q2)
    else
    if i1 = (3 : Int32) then
      (fX4_there a0 q2).bind fun q5 =>
      some (q5.1, q5.2)
    else
    if i1 = (4 : Int32) then
      (fX4_sentSet a0 q2).bind fun q6 =>
      some (q6.1, q6.2)
    else
    (fX4_code a0 q2).bind fun q7 =>
    some (q7.1, q7.2)
  else
  if i1 = (1 : Int32) then
    (fX4_sort a0 q2).bind fun q8 =>
    some (q8.1, q8.2)
  else
  if i1 = (0 : Int32) then
    (fX4_holds a0 q2).bind fun q9 =>
    if q9.1 = (0 : Int32) then
      some ((0 : Int32), q9.2)
    else
    some ((1 : Int32), q9.2)
  else
  (fX4_isRefined a0 q2).bind fun q10 =>
  if q10.1 = (0 : Int32) then
    some ((0 : Int32), q10.2)
  else
  some ((1 : Int32), q10.2)
  else none
theorem iX4_count {a0 : Nat} {i1 : Int32} {w : XW} {R9 : (Int32 × XW)} (h : fX4_count a0 i1 w = some R9) : xis w a0 4 = true := by
  unfold fX4_count at h
  rcases xite h with ⟨hc, h⟩ | ⟨hc, h⟩
  · exact hc
  · exact absurd h (by simp)
theorem np_X4_count : (parseMethodDescriptor yX4_count.desc).map (fun d => d.parameters.length) = some 1 := by decide +kernel
theorem hy_X4_count : yX4_count.cls ≠ "java/lang/invoke/MethodHandle" ∧ yX4_count.cls ≠ "java/lang/invoke/VarHandle" := ⟨by decide +kernel, by decide +kernel⟩
set_option maxRecDepth 20000 in
theorem eX4_count {cx : CX} {a0 : Nat} {i1 : Int32} {w : XW} {R9 : (Int32 × XW)} (h : fX4_count a0 i1 w = some R9) : Ct yX4_count cX4_count 2 (some .int) 7 167 cx [.ref a0, .int i1] w (some (.int R9.1)) R9.2 := by
  refine Ct_of (by decide +kernel) (Nat.le_of_ble_eq_true rfl) (fun K B hR => ?_)
  rw [fX4_count] at h
  show Wx K cx 2 w.length 0 [(0, .ref a0), (1, .int i1)] [] w
  rcases xite h with ⟨hc, h⟩ | ⟨hc, h⟩
  · skip
    refine x_iload_n (pc := 0) B 1 dX4_count_0 rfl rfl ?_
    refine x_iconst (pc := 1) B dX4_count_1 xk_iconst_0 ?_
    refine x_bipush (pc := 2) B dX4_count_2 xk_bipush_7 ?_
    obtain ⟨q1, hq, h⟩ := xbind h
    refine x_callS1 (st := []) (pc := 4) B dX4_count_4 (eX4_in hq) xt_639 xt_58 np_X4_in hy_X4_in (Nat.le_of_ble_eq_true rfl) (Nat.le_of_ble_eq_true rfl) (Nat.le_of_ble_eq_true rfl) xt_638 xt_637 rfl ?_
    rcases xite h with ⟨hc, h⟩ | ⟨hc, h⟩
    · refine x_if_ne_f (pc := 7) B 13 dX4_count_7 (by decide) hc ?_
      refine x_bipush (pc := 10) B dX4_count_10 xk_bipush_m2 ?_
      exact x_iret (pc := 12) B hR dX4_count_12 (xzI _) h
    · refine x_if_ne_t (tgt := 13) (pc := 7) B dX4_count_7 (by decide) hc ?_
      refine x_aload_n (pc := 13) B 0 dX4_count_13 rfl rfl ?_
      obtain ⟨q2, hq, h⟩ := xbind h
      refine x_callV0 (st := []) (pc := 14) B dX4_count_14 (eX4_looks hq) xt_812 xt_58 np_X4_looks hy_X4_looks (Nat.le_of_ble_eq_true rfl) (Nat.le_of_ble_eq_true rfl) (Nat.le_of_ble_eq_true rfl) xt_811 xt_42 xt_809 rfl (iX4_looks hq) rfl ?_
      refine x_iload_n (pc := 17) B 1 dX4_count_17 rfl rfl ?_
      refine x_iconst (pc := 18) B dX4_count_18 xk_iconst_3 ?_
      rcases xite h with ⟨hc, h⟩ | ⟨hc, h⟩
      · refine x_icmp_ge_t (tgt := 61) (pc := 19) B dX4_count_19 (by decide) hc ?_
        refine x_iload_n (pc := 61) B 1 dX4_count_61 rfl rfl ?_
        refine x_bipush (pc := 62) B dX4_count_62 xk_bipush_6 ?_
        rcases xite h with ⟨hc, h⟩ | ⟨hc, h⟩
        · refine x_icmp_ge_t (tgt := 96) (pc := 64) B dX4_count_64 (by decide) hc ?_
          refine x_iload_n (pc := 96) B 1 dX4_count_96 rfl rfl ?_
          refine x_bipush (pc := 97) B dX4_count_97 xk_bipush_6 ?_
          rcases xite h with ⟨hc, h⟩ | ⟨hc, h⟩
          · refine x_icmp_ne_f (pc := 99) B 109 dX4_count_99 (by decide) hc ?_
            refine x_aload_n (pc := 102) B 0 dX4_count_102 rfl rfl ?_
            obtain ⟨v3, hv, h⟩ := xbind h
            refine x_getI (k0 := 6) (pc := 103) B dX4_count_103 rfl xi_4 (by decide) ⟨rfl, rfl, rfl⟩ xt_608 hv ?_
            refine x_goto (tgt := 113) (pc := 106) B dX4_count_106 (by decide) ?_
            exact x_iret (pc := 113) B hR dX4_count_113 (xzI _) h
          · refine x_icmp_ne_t (tgt := 109) (pc := 99) B dX4_count_99 (by decide) hc ?_
            refine x_aload_n (pc := 109) B 0 dX4_count_109 rfl rfl ?_
            obtain ⟨v4, hv, h⟩ := xbind h
            refine x_getI (k0 := 2) (pc := 110) B dX4_count_110 rfl xi_4 (by decide) ⟨rfl, rfl, rfl⟩ xt_604 hv ?_
            exact x_iret (pc := 113) B hR dX4_count_113 (xzI _) h
        · refine x_icmp_ge_f (pc := 64) B 96 dX4_count_64 (by decide) hc ?_
          refine x_iload_n (pc := 67) B 1 dX4_count_67 rfl rfl ?_
          refine x_iconst (pc := 68) B dX4_count_68 xk_iconst_3 ?_
          rcases xite h with ⟨hc, h⟩ | ⟨hc, h⟩
          · refine x_icmp_ne_f (pc := 69) B 79 dX4_count_69 (by decide) hc ?_
            refine x_aload_n (pc := 72) B 0 dX4_count_72 rfl rfl ?_
            obtain ⟨q5, hq, h⟩ := xbind h
            refine x_callV1 (st := []) (pc := 73) B dX4_count_73 (eX4_there hq) xt_768 xt_58 np_X4_there hy_X4_there (Nat.le_of_ble_eq_true rfl) (Nat.le_of_ble_eq_true rfl) (Nat.le_of_ble_eq_true rfl) xt_767 xt_36 xt_765 rfl (iX4_there hq) rfl ?_
            refine x_goto (tgt := 95) (pc := 76) B dX4_count_76 (by decide) ?_
            exact x_iret (pc := 95) B hR dX4_count_95 (xzI _) h
          · refine x_icmp_ne_t (tgt := 79) (pc := 69) B dX4_count_69 (by decide) hc ?_
            refine x_iload_n (pc := 79) B 1 dX4_count_79 rfl rfl ?_
            refine x_iconst (pc := 80) B dX4_count_80 xk_iconst_4 ?_
            rcases xite h with ⟨hc, h⟩ | ⟨hc, h⟩
            · refine x_icmp_ne_f (pc := 81) B 91 dX4_count_81 (by decide) hc ?_
              refine x_aload_n (pc := 84) B 0 dX4_count_84 rfl rfl ?_
              obtain ⟨q6, hq, h⟩ := xbind h
              refine x_callV1 (st := []) (pc := 85) B dX4_count_85 (eX4_sentSet hq) xt_843 xt_58 np_X4_sentSet hy_X4_sentSet (Nat.le_of_ble_eq_true rfl) (Nat.le_of_ble_eq_true rfl) (Nat.le_of_ble_eq_true rfl) xt_842 xt_44 xt_840 rfl (iX4_sentSet hq) rfl ?_
              refine x_goto (tgt := 95) (pc := 88) B dX4_count_88 (by decide) ?_
              exact x_iret (pc := 95) B hR dX4_count_95 (xzI _) h
            · refine x_icmp_ne_t (tgt := 91) (pc := 81) B dX4_count_81 (by decide) hc ?_
              refine x_aload_n (pc := 91) B 0 dX4_count_91 rfl rfl ?_
              obtain ⟨q7, hq, h⟩ := xbind h
              refine x_callV1 (st := []) (pc := 92) B dX4_count_92 (eX4_code hq) xt_643 xt_58 np_X4_code hy_X4_code (Nat.le_of_ble_eq_true rfl) (Nat.le_of_ble_eq_true rfl) (Nat.le_of_ble_eq_true rfl) xt_642 xt_14 xt_640 rfl (iX4_code hq) rfl ?_
              exact x_iret (pc := 95) B hR dX4_count_95 (xzI _) h
      · refine x_icmp_ge_f (pc := 19) B 61 dX4_count_19 (by decide) hc ?_
        refine x_iload_n (pc := 22) B 1 dX4_count_22 rfl rfl ?_
        refine x_iconst (pc := 23) B dX4_count_23 xk_iconst_1 ?_
        rcases xite h with ⟨hc, h⟩ | ⟨hc, h⟩
        · refine x_icmp_ne_f (pc := 24) B 34 dX4_count_24 (by decide) hc ?_
          refine x_aload_n (pc := 27) B 0 dX4_count_27 rfl rfl ?_
          obtain ⟨q8, hq, h⟩ := xbind h
          refine x_callV1 (st := []) (pc := 28) B dX4_count_28 (eX4_sort hq) xt_784 xt_58 np_X4_sort hy_X4_sort (Nat.le_of_ble_eq_true rfl) (Nat.le_of_ble_eq_true rfl) (Nat.le_of_ble_eq_true rfl) xt_783 xt_40 xt_781 rfl (iX4_sort hq) rfl ?_
          refine x_goto (tgt := 60) (pc := 31) B dX4_count_31 (by decide) ?_
          exact x_iret (pc := 60) B hR dX4_count_60 (xzI _) h
        · refine x_icmp_ne_t (tgt := 34) (pc := 24) B dX4_count_24 (by decide) hc ?_
          refine x_iload_n (pc := 34) B 1 dX4_count_34 rfl rfl ?_
          rcases xite h with ⟨hc, h⟩ | ⟨hc, h⟩
          · refine x_if_ne_f (pc := 35) B 48 dX4_count_35 (by decide) hc ?_
            refine x_aload_n (pc := 38) B 0 dX4_count_38 rfl rfl ?_
            obtain ⟨q9, hq, h⟩ := xbind h
            refine x_callV1 (st := []) (pc := 39) B dX4_count_39 (eX4_holds hq) xt_708 xt_58 np_X4_holds hy_X4_holds (Nat.le_of_ble_eq_true rfl) (Nat.le_of_ble_eq_true rfl) (Nat.le_of_ble_eq_true rfl) xt_707 xt_21 xt_705 rfl (iX4_holds hq) rfl ?_
            rcases xite h with ⟨hc, h⟩ | ⟨hc, h⟩
            · refine x_if_eq_t (tgt := 59) (pc := 42) B dX4_count_42 (by decide) hc ?_
              refine x_iconst (pc := 59) B dX4_count_59 xk_iconst_0 ?_
              exact x_iret (pc := 60) B hR dX4_count_60 (xzI _) h
            · refine x_if_eq_f (pc := 42) B 59 dX4_count_42 (by decide) hc ?_
              refine x_goto (tgt := 55) (pc := 45) B dX4_count_45 (by decide) ?_
              refine x_iconst (pc := 55) B dX4_count_55 xk_iconst_1 ?_
              refine x_goto (tgt := 60) (pc := 56) B dX4_count_56 (by decide) ?_
              exact x_iret (pc := 60) B hR dX4_count_60 (xzI _) h
          · refine x_if_ne_t (tgt := 48) (pc := 35) B dX4_count_35 (by decide) hc ?_
            refine x_aload_n (pc := 48) B 0 dX4_count_48 rfl rfl ?_
            obtain ⟨q10, hq, h⟩ := xbind h
            refine x_callV1 (st := []) (pc := 49) B dX4_count_49 (eX4_isRefined hq) xt_760 xt_58 np_X4_isRefined hy_X4_isRefined (Nat.le_of_ble_eq_true rfl) (Nat.le_of_ble_eq_true rfl) (Nat.le_of_ble_eq_true rfl) xt_759 xt_34 xt_757 rfl (iX4_isRefined hq) rfl ?_
            rcases xite h with ⟨hc, h⟩ | ⟨hc, h⟩
            · refine x_if_eq_t (tgt := 59) (pc := 52) B dX4_count_52 (by decide) hc ?_
              refine x_iconst (pc := 59) B dX4_count_59 xk_iconst_0 ?_
              exact x_iret (pc := 60) B hR dX4_count_60 (xzI _) h
            · refine x_if_eq_f (pc := 52) B 59 dX4_count_52 (by decide) hc ?_
              refine x_iconst (pc := 55) B dX4_count_55 xk_iconst_1 ?_
              refine x_goto (tgt := 60) (pc := 56) B dX4_count_56 (by decide) ?_
              exact x_iret (pc := 60) B hR dX4_count_60 (xzI _) h
  · exact absurd h (by simp)
def fX4_bestAnswer (a0 : Nat) (i1 : Int32) (w : XW) : Option (Int32 × XW) := if xis w a0 4 = true then
  (fX4_isOne i1 w).bind fun q1 =>
  if q1.1 = (0 : Int32) then
    some ((-1 : Int32), q1.2)
  else
  (fX4_looks a0 q1.2).bind fun q2 =>
  (fX4_best a0 i1 q2).bind fun q3 =>
  if (q3.1 &&& (1 : Int32)) = (1 : Int32) then
    some ((0 : Int32), q3.2)
  else
  if (q3.1 &&& (2 : Int32)) = (2 : Int32) then
    some ((1 : Int32), q3.2)
  else
  some ((2 : Int32), q3.2)
  else none
theorem iX4_bestAnswer {a0 : Nat} {i1 : Int32} {w : XW} {R9 : (Int32 × XW)} (h : fX4_bestAnswer a0 i1 w = some R9) : xis w a0 4 = true := by
  unfold fX4_bestAnswer at h
  rcases xite h with ⟨hc, h⟩ | ⟨hc, h⟩
  · exact hc
  · exact absurd h (by simp)
theorem np_X4_bestAnswer : (parseMethodDescriptor yX4_bestAnswer.desc).map (fun d => d.parameters.length) = some 1 := by decide +kernel
theorem hy_X4_bestAnswer : yX4_bestAnswer.cls ≠ "java/lang/invoke/MethodHandle" ∧ yX4_bestAnswer.cls ≠ "java/lang/invoke/VarHandle" := ⟨by decide +kernel, by decide +kernel⟩
set_option maxRecDepth 20000 in
theorem eX4_bestAnswer {cx : CX} {a0 : Nat} {i1 : Int32} {w : XW} {R9 : (Int32 × XW)} (h : fX4_bestAnswer a0 i1 w = some R9) : Ct yX4_bestAnswer cX4_bestAnswer 3 (some .int) 4 93 cx [.ref a0, .int i1] w (some (.int R9.1)) R9.2 := by
  refine Ct_of (by decide +kernel) (Nat.le_of_ble_eq_true rfl) (fun K B hR => ?_)
  rw [fX4_bestAnswer] at h
  show Wx K cx 3 w.length 0 [(0, .ref a0), (1, .int i1)] [] w
  rcases xite h with ⟨hc, h⟩ | ⟨hc, h⟩
  · skip
    refine x_iload_n (pc := 0) B 1 dX4_bestAnswer_0 rfl rfl ?_
    obtain ⟨q1, hq, h⟩ := xbind h
    refine x_callS1 (st := []) (pc := 1) B dX4_bestAnswer_1 (eX4_isOne hq) xt_662 xt_58 np_X4_isOne hy_X4_isOne (Nat.le_of_ble_eq_true rfl) (Nat.le_of_ble_eq_true rfl) (Nat.le_of_ble_eq_true rfl) xt_661 xt_660 rfl ?_
    rcases xite h with ⟨hc, h⟩ | ⟨hc, h⟩
    · refine x_if_ne_f (pc := 4) B 9 dX4_bestAnswer_4 (by decide) hc ?_
      refine x_iconst (pc := 7) B dX4_bestAnswer_7 xk_iconst_m1 ?_
      exact x_iret (pc := 8) B hR dX4_bestAnswer_8 (xzI _) h
    · refine x_if_ne_t (tgt := 9) (pc := 4) B dX4_bestAnswer_4 (by decide) hc ?_
      refine x_aload_n (pc := 9) B 0 dX4_bestAnswer_9 rfl rfl ?_
      obtain ⟨q2, hq, h⟩ := xbind h
      refine x_callV0 (st := []) (pc := 10) B dX4_bestAnswer_10 (eX4_looks hq) xt_812 xt_58 np_X4_looks hy_X4_looks (Nat.le_of_ble_eq_true rfl) (Nat.le_of_ble_eq_true rfl) (Nat.le_of_ble_eq_true rfl) xt_811 xt_42 xt_809 rfl (iX4_looks hq) rfl ?_
      refine x_aload_n (pc := 13) B 0 dX4_bestAnswer_13 rfl rfl ?_
      refine x_iload_n (pc := 14) B 1 dX4_bestAnswer_14 rfl rfl ?_
      obtain ⟨q3, hq, h⟩ := xbind h
      refine x_callV1 (st := []) (pc := 15) B dX4_bestAnswer_15 (eX4_best hq) xt_736 xt_58 np_X4_best hy_X4_best (Nat.le_of_ble_eq_true rfl) (Nat.le_of_ble_eq_true rfl) (Nat.le_of_ble_eq_true rfl) xt_735 xt_28 xt_733 rfl (iX4_best hq) rfl ?_
      refine x_istore_n (L1 := [(2, .int q3.1), (0, .ref a0), (1, .int i1)]) (pc := 18) B dX4_bestAnswer_18 rfl (by decide) rfl ?_
      refine x_iload_n (pc := 19) B 0 dX4_bestAnswer_19 rfl rfl ?_
      refine x_iconst (pc := 20) B dX4_bestAnswer_20 xk_iconst_1 ?_
      refine x_iand (pc := 21) B dX4_bestAnswer_21 ?_
      refine x_iconst (pc := 22) B dX4_bestAnswer_22 xk_iconst_1 ?_
      rcases xite h with ⟨hc, h⟩ | ⟨hc, h⟩
      · refine x_icmp_ne_f (pc := 23) B 30 dX4_bestAnswer_23 (by decide) hc ?_
        refine x_iconst (pc := 26) B dX4_bestAnswer_26 xk_iconst_0 ?_
        refine x_goto (tgt := 42) (pc := 27) B dX4_bestAnswer_27 (by decide) ?_
        exact x_iret (pc := 42) B hR dX4_bestAnswer_42 (xzI _) h
      · refine x_icmp_ne_t (tgt := 30) (pc := 23) B dX4_bestAnswer_23 (by decide) hc ?_
        refine x_iload_n (pc := 30) B 0 dX4_bestAnswer_30 rfl rfl ?_
        refine x_iconst (pc := 31) B dX4_bestAnswer_31 xk_iconst_2 ?_
        refine x_iand (pc := 32) B dX4_bestAnswer_32 ?_
        refine x_iconst (pc := 33) B dX4_bestAnswer_33 xk_iconst_2 ?_
        rcases xite h with ⟨hc, h⟩ | ⟨hc, h⟩
        · refine x_icmp_ne_f (pc := 34) B 41 dX4_bestAnswer_34 (by decide) hc ?_
          refine x_iconst (pc := 37) B dX4_bestAnswer_37 xk_iconst_1 ?_
          refine x_goto (tgt := 42) (pc := 38) B dX4_bestAnswer_38 (by decide) ?_
          exact x_iret (pc := 42) B hR dX4_bestAnswer_42 (xzI _) h
        · refine x_icmp_ne_t (tgt := 41) (pc := 34) B dX4_bestAnswer_34 (by decide) hc ?_
          refine x_iconst (pc := 41) B dX4_bestAnswer_41 xk_iconst_2 ?_
          exact x_iret (pc := 42) B hR dX4_bestAnswer_42 (xzI _) h
  · exact absurd h (by simp)
def fX4_byteOf (l0 : Int64) (i2 : Int32) (w : XW) : Option (Int32 × XW) :=
  some (((((l0 >>> ((((8 : Int32) * i2)).toInt64 &&& 63)) &&& (255 : Int64))).toInt32), w)
theorem np_X4_byteOf : (parseMethodDescriptor yX4_byteOf.desc).map (fun d => d.parameters.length) = some 2 := by decide +kernel
theorem hy_X4_byteOf : yX4_byteOf.cls ≠ "java/lang/invoke/MethodHandle" ∧ yX4_byteOf.cls ≠ "java/lang/invoke/VarHandle" := ⟨by decide +kernel, by decide +kernel⟩
set_option maxRecDepth 20000 in
theorem eX4_byteOf {cx : CX} {l0 : Int64} {i2 : Int32} {w : XW} {R9 : (Int32 × XW)} (h : fX4_byteOf l0 i2 w = some R9) : Ct yX4_byteOf cX4_byteOf 3 (some .int) 0 0 cx [.long l0, .int i2] w (some (.int R9.1)) R9.2 := by
  refine Ct_of (by decide +kernel) (Nat.le_of_ble_eq_true rfl) (fun K B hR => ?_)
  rw [fX4_byteOf] at h
  show Wx K cx 3 w.length 0 [(0, .long l0), (2, .int i2)] [] w
  refine x_lload_n (pc := 0) B 0 dX4_byteOf_0 rfl rfl ?_
  refine x_bipush (pc := 1) B dX4_byteOf_1 xk_bipush_8 ?_
  refine x_iload_n (pc := 3) B 1 dX4_byteOf_3 rfl rfl ?_
  refine x_imul (pc := 4) B dX4_byteOf_4 ?_
  refine x_lshr (pc := 5) B dX4_byteOf_5 ?_
  refine x_ldc2 (pc := 6) B dX4_byteOf_6 xt_858 ?_
  refine x_land (pc := 9) B dX4_byteOf_9 ?_
  refine x_l2i (pc := 10) B dX4_byteOf_10 ?_
  exact x_iret (pc := 11) B hR dX4_byteOf_11 (xzI _) h
def fX4_toldBy_42 : Nat → Int64 → Int32 → Int32 → XW → Option (Int32 × XW)
  | 0, _, _, _, _ => none
  | g + 1, l0, i2, i3, w =>
    if (8 : Int32) ≤ i3 then
      if i2 = (0 : Int32) then
        some ((-2 : Int32), w)
      else
      some (i2, w)
    else
    (fX4_byteOf l0 i3 w).bind fun q1 =>
    if q1.1 = (0 : Int32) then
      fX4_toldBy_42 g l0 i2 (i3 + (1 : Int32)) q1.2
    else
    some ((-2 : Int32), q1.2)
set_option maxRecDepth 20000 in
theorem pX4_toldBy_42 {K : KX} {cx : CX} {nn : Nat} {R9 : Int32 × XW} (B : XB K cx RX4 cX4_toldBy 4 nn 1 22) (hR : XR K cx nn (some .int) (some (.int R9.1)) R9.2) : ∀ (g : Nat) (l0 : Int64) (i2 : Int32) (i3 : Int32) (w : XW), fX4_toldBy_42 g l0 i2 i3 w = some R9 → Wx K cx 4 nn 42 [(0, .long l0), (2, .int i2), (3, .int i3)] [] w := by
  intro g
  induction g with
  | zero =>
    intro l0 i2 i3 w h
    exact absurd (show (none : Option (Int32 × XW)) = some R9 from h) (by simp)
  | succ g ih =>
    intro l0 i2 i3 w h
    rw [fX4_toldBy_42] at h
    refine x_iload_n (pc := 42) B 2 dX4_toldBy_42 rfl rfl ?_
    refine x_bipush (pc := 43) B dX4_toldBy_43 xk_bipush_8 ?_
    rcases xite h with ⟨hc, h⟩ | ⟨hc, h⟩
    · refine x_icmp_ge_t (tgt := 65) (pc := 45) B dX4_toldBy_45 (by decide) hc ?_
      refine x_iload_n (pc := 65) B 1 dX4_toldBy_65 rfl rfl ?_
      rcases xite h with ⟨hc, h⟩ | ⟨hc, h⟩
      · refine x_if_ne_f (pc := 66) B 74 dX4_toldBy_66 (by decide) hc ?_
        refine x_bipush (pc := 69) B dX4_toldBy_69 xk_bipush_m2 ?_
        refine x_goto (tgt := 75) (pc := 71) B dX4_toldBy_71 (by decide) ?_
        exact x_iret (pc := 75) B hR dX4_toldBy_75 (xzI _) h
      · refine x_if_ne_t (tgt := 74) (pc := 66) B dX4_toldBy_66 (by decide) hc ?_
        refine x_iload_n (pc := 74) B 1 dX4_toldBy_74 rfl rfl ?_
        exact x_iret (pc := 75) B hR dX4_toldBy_75 (xzI _) h
    · refine x_icmp_ge_f (pc := 45) B 65 dX4_toldBy_45 (by decide) hc ?_
      refine x_lload_n (pc := 48) B 0 dX4_toldBy_48 rfl rfl ?_
      refine x_iload_n (pc := 49) B 2 dX4_toldBy_49 rfl rfl ?_
      obtain ⟨q1, hq, h⟩ := xbind h
      refine x_callS1 (st := []) (pc := 50) B dX4_toldBy_50 (eX4_byteOf hq) xt_857 xt_58 np_X4_byteOf hy_X4_byteOf (Nat.le_of_ble_eq_true rfl) (Nat.le_of_ble_eq_true rfl) (Nat.le_of_ble_eq_true rfl) xt_856 xt_855 rfl ?_
      rcases xite h with ⟨hc, h⟩ | ⟨hc, h⟩
      · refine x_if_eq_t (tgt := 59) (pc := 53) B dX4_toldBy_53 (by decide) hc ?_
        refine x_iinc (L1 := [(3, .int (i3 + (1 : Int32))), (0, .long l0), (2, .int i2)]) (pc := 59) B 2 dX4_toldBy_59 rfl (congrArg _ xk_iconst_1) (by decide) rfl ?_
        refine x_goto (tgt := 42) (pc := 62) B dX4_toldBy_62 (by decide) ?_
        refine x_sub (L1 := [(0, .long l0), (2, .int i2), (3, .int (i3 + (1 : Int32)))]) [1, 2, 0] rfl ?_
        exact ih l0 i2 (i3 + (1 : Int32)) q1.2 h
      · refine x_if_eq_f (pc := 53) B 59 dX4_toldBy_53 (by decide) hc ?_
        refine x_bipush (pc := 56) B dX4_toldBy_56 xk_bipush_m2 ?_
        exact x_iret (pc := 58) B hR dX4_toldBy_58 (xzI _) h
def fX4_toldBy_40 (l0 : Int64) (i2 : Int32) (w : XW) : Option (Int32 × XW) :=
  fX4_toldBy_42 1000 l0 i2 i2 w
set_option maxRecDepth 20000 in
theorem pX4_toldBy_40 {K : KX} {cx : CX} {nn : Nat} {R9 : Int32 × XW} (B : XB K cx RX4 cX4_toldBy 4 nn 1 22) (hR : XR K cx nn (some .int) (some (.int R9.1)) R9.2) : ∀ (l0 : Int64) (i2 : Int32) (w : XW), fX4_toldBy_40 l0 i2 w = some R9 → Wx K cx 4 nn 40 [(0, .long l0), (2, .int i2)] [] w := by
  intro l0 i2 w h
  rw [fX4_toldBy_40] at h
  refine x_iload_n (pc := 40) B 1 dX4_toldBy_40 rfl rfl ?_
  refine x_istore_n (L1 := [(3, .int i2), (0, .long l0), (2, .int i2)]) (pc := 41) B dX4_toldBy_41 rfl (by decide) rfl ?_
  refine x_sub (L1 := [(0, .long l0), (2, .int i2), (3, .int i2)]) [1, 2, 0] rfl ?_
  exact pX4_toldBy_42 B hR 1000 l0 i2 i2 w h
def fX4_toldBy_2 : Nat → Int64 → Int32 → XW → Option (Int32 × XW)
  | 0, _, _, _ => none
  | g + 1, l0, i2, w =>
    if (8 : Int32) ≤ i2 then
      fX4_toldBy_40 l0 i2 w
    else
    (fX4_byteOf l0 i2 w).bind fun q2 =>
    if q2.1 = (0 : Int32) then
      fX4_toldBy_40 l0 i2 q2.2
    else
    (fX4_byteOf l0 i2 q2.2).bind fun q3 =>
    (fX4_in q3.1 (33 : Int32) (126 : Int32) q3.2).bind fun q4 =>
    if q4.1 = (0 : Int32) then
      some ((-2 : Int32), q4.2)
    else
    fX4_toldBy_2 g l0 (i2 + (1 : Int32)) q4.2
set_option maxRecDepth 20000 in
theorem pX4_toldBy_2 {K : KX} {cx : CX} {nn : Nat} {R9 : Int32 × XW} (B : XB K cx RX4 cX4_toldBy 4 nn 1 22) (hR : XR K cx nn (some .int) (some (.int R9.1)) R9.2) : ∀ (g : Nat) (l0 : Int64) (i2 : Int32) (w : XW), fX4_toldBy_2 g l0 i2 w = some R9 → Wx K cx 4 nn 2 [(0, .long l0), (2, .int i2)] [] w := by
  intro g
  induction g with
  | zero =>
    intro l0 i2 w h
    exact absurd (show (none : Option (Int32 × XW)) = some R9 from h) (by simp)
  | succ g ih =>
    intro l0 i2 w h
    rw [fX4_toldBy_2] at h
    refine x_iload_n (pc := 2) B 1 dX4_toldBy_2 rfl rfl ?_
    refine x_bipush (pc := 3) B dX4_toldBy_3 xk_bipush_8 ?_
    rcases xite h with ⟨hc, h⟩ | ⟨hc, h⟩
    · refine x_icmp_ge_t (tgt := 40) (pc := 5) B dX4_toldBy_5 (by decide) hc ?_
      exact pX4_toldBy_40 B hR l0 i2 w h
    · refine x_icmp_ge_f (pc := 5) B 40 dX4_toldBy_5 (by decide) hc ?_
      refine x_lload_n (pc := 8) B 0 dX4_toldBy_8 rfl rfl ?_
      refine x_iload_n (pc := 9) B 1 dX4_toldBy_9 rfl rfl ?_
      obtain ⟨q2, hq, h⟩ := xbind h
      refine x_callS1 (st := []) (pc := 10) B dX4_toldBy_10 (eX4_byteOf hq) xt_857 xt_58 np_X4_byteOf hy_X4_byteOf (Nat.le_of_ble_eq_true rfl) (Nat.le_of_ble_eq_true rfl) (Nat.le_of_ble_eq_true rfl) xt_856 xt_855 rfl ?_
      rcases xite h with ⟨hc, h⟩ | ⟨hc, h⟩
      · refine x_if_eq_t (tgt := 40) (pc := 13) B dX4_toldBy_13 (by decide) hc ?_
        exact pX4_toldBy_40 B hR l0 i2 q2.2 h
      · refine x_if_eq_f (pc := 13) B 40 dX4_toldBy_13 (by decide) hc ?_
        refine x_lload_n (pc := 16) B 0 dX4_toldBy_16 rfl rfl ?_
        refine x_iload_n (pc := 17) B 1 dX4_toldBy_17 rfl rfl ?_
        obtain ⟨q3, hq, h⟩ := xbind h
        refine x_callS1 (st := []) (pc := 18) B dX4_toldBy_18 (eX4_byteOf hq) xt_857 xt_58 np_X4_byteOf hy_X4_byteOf (Nat.le_of_ble_eq_true rfl) (Nat.le_of_ble_eq_true rfl) (Nat.le_of_ble_eq_true rfl) xt_856 xt_855 rfl ?_
        refine x_bipush (pc := 21) B dX4_toldBy_21 xk_bipush_33 ?_
        refine x_bipush (pc := 23) B dX4_toldBy_23 xk_bipush_126 ?_
        obtain ⟨q4, hq, h⟩ := xbind h
        refine x_callS1 (st := []) (pc := 25) B dX4_toldBy_25 (eX4_in hq) xt_639 xt_58 np_X4_in hy_X4_in (Nat.le_of_ble_eq_true rfl) (Nat.le_of_ble_eq_true rfl) (Nat.le_of_ble_eq_true rfl) xt_638 xt_637 rfl ?_
        rcases xite h with ⟨hc, h⟩ | ⟨hc, h⟩
        · refine x_if_ne_f (pc := 28) B 34 dX4_toldBy_28 (by decide) hc ?_
          refine x_bipush (pc := 31) B dX4_toldBy_31 xk_bipush_m2 ?_
          exact x_iret (pc := 33) B hR dX4_toldBy_33 (xzI _) h
        · refine x_if_ne_t (tgt := 34) (pc := 28) B dX4_toldBy_28 (by decide) hc ?_
          refine x_iinc (L1 := [(2, .int (i2 + (1 : Int32))), (0, .long l0)]) (pc := 34) B 1 dX4_toldBy_34 rfl (congrArg _ xk_iconst_1) (by decide) rfl ?_
          refine x_goto (tgt := 2) (pc := 37) B dX4_toldBy_37 (by decide) ?_
          refine x_sub (L1 := [(0, .long l0), (2, .int (i2 + (1 : Int32)))]) [1, 0] rfl ?_
          exact ih l0 (i2 + (1 : Int32)) q4.2 h
def fX4_toldBy (l0 : Int64) (w : XW) : Option (Int32 × XW) :=
  fX4_toldBy_2 1000 l0 (0 : Int32) w
theorem np_X4_toldBy : (parseMethodDescriptor yX4_toldBy.desc).map (fun d => d.parameters.length) = some 1 := by decide +kernel
theorem hy_X4_toldBy : yX4_toldBy.cls ≠ "java/lang/invoke/MethodHandle" ∧ yX4_toldBy.cls ≠ "java/lang/invoke/VarHandle" := ⟨by decide +kernel, by decide +kernel⟩
set_option maxRecDepth 20000 in
theorem eX4_toldBy {cx : CX} {l0 : Int64} {w : XW} {R9 : (Int32 × XW)} (h : fX4_toldBy l0 w = some R9) : Ct yX4_toldBy cX4_toldBy 4 (some .int) 1 22 cx [.long l0] w (some (.int R9.1)) R9.2 := by
  refine Ct_of (by decide +kernel) (Nat.le_of_ble_eq_true rfl) (fun K B hR => ?_)
  rw [fX4_toldBy] at h
  show Wx K cx 4 w.length 0 [(0, .long l0)] [] w
  refine x_iconst (pc := 0) B dX4_toldBy_0 xk_iconst_0 ?_
  refine x_istore_n (L1 := [(2, .int (0 : Int32)), (0, .long l0)]) (pc := 1) B dX4_toldBy_1 rfl (by decide) rfl ?_
  refine x_sub (L1 := [(0, .long l0), (2, .int (0 : Int32))]) [1, 0] rfl ?_
  exact pX4_toldBy_2 B hR 1000 l0 (0 : Int32) w h
def fX4_put_30 : Nat → Nat → Int64 → Int32 → XW → Option (Int32 × XW)
  | 0, _, _, _, _ => none
  | g + 1, a0, l1, i4, w =>
    if i4 < (0 : Int32) then
      (xgI w a0 4 6).bind fun v3 =>
      some (v3, w)
    else
    (xgR w a0 4 5).bind fun v4 =>
    (xgI w a0 4 6).bind fun v5 =>
    (fX4_byteOf l1 i4 w).bind fun q6 =>
    (xsI q6.2 v4 v5 q6.1).bind fun w7 =>
    (xgI w7 a0 4 6).bind fun v8 =>
    (xpI w7 a0 4 6 (v8 + (1 : Int32))).bind fun w9 =>
    fX4_put_30 g a0 l1 (i4 + (-1 : Int32)) w9
set_option maxRecDepth 20000 in
theorem pX4_put_30 {K : KX} {cx : CX} {nn : Nat} {R9 : Int32 × XW} (B : XB K cx RX4 cX4_put 5 nn 2 45) (hR : XR K cx nn (some .int) (some (.int R9.1)) R9.2) : ∀ (g : Nat) (a0 : Nat) (l1 : Int64) (i4 : Int32) (w : XW), fX4_put_30 g a0 l1 i4 w = some R9 → Wx K cx 5 nn 30 [(0, .ref a0), (1, .long l1), (4, .int i4)] [] w := by
  intro g
  induction g with
  | zero =>
    intro a0 l1 i4 w h
    exact absurd (show (none : Option (Int32 × XW)) = some R9 from h) (by simp)
  | succ g ih =>
    intro a0 l1 i4 w h
    rw [fX4_put_30] at h
    refine x_iload (pc := 30) B 2 dX4_put_30 rfl ?_
    rcases xite h with ⟨hc, h⟩ | ⟨hc, h⟩
    · refine x_if_lt_t (tgt := 66) (pc := 32) B dX4_put_32 (by decide) hc ?_
      refine x_aload_n (pc := 66) B 0 dX4_put_66 rfl rfl ?_
      obtain ⟨v3, hv, h⟩ := xbind h
      refine x_getI (k0 := 6) (pc := 67) B dX4_put_67 rfl xi_4 (by decide) ⟨rfl, rfl, rfl⟩ xt_608 hv ?_
      exact x_iret (pc := 70) B hR dX4_put_70 (xzI _) h
    · refine x_if_lt_f (pc := 32) B 66 dX4_put_32 (by decide) hc ?_
      refine x_aload_n (pc := 35) B 0 dX4_put_35 rfl rfl ?_
      obtain ⟨v4, hv, h⟩ := xbind h
      refine x_getR (k0 := 5) (pc := 36) B dX4_put_36 rfl xi_4 (by decide) ⟨rfl, rfl, rfl⟩ xt_607 hv ?_
      refine x_aload_n (pc := 39) B 0 dX4_put_39 rfl rfl ?_
      obtain ⟨v5, hv, h⟩ := xbind h
      refine x_getI (k0 := 6) (pc := 40) B dX4_put_40 rfl xi_4 (by decide) ⟨rfl, rfl, rfl⟩ xt_608 hv ?_
      refine x_lload_n (pc := 43) B 1 dX4_put_43 rfl rfl ?_
      refine x_iload (pc := 44) B 2 dX4_put_44 rfl ?_
      obtain ⟨q6, hq, h⟩ := xbind h
      refine x_callS1 (st := [.int v5, .ref v4]) (pc := 46) B dX4_put_46 (eX4_byteOf hq) xt_857 xt_58 np_X4_byteOf hy_X4_byteOf (Nat.le_of_ble_eq_true rfl) (Nat.le_of_ble_eq_true rfl) (Nat.le_of_ble_eq_true rfl) xt_856 xt_855 rfl ?_
      obtain ⟨w7, hv, h⟩ := xbind h
      refine x_iast (pc := 49) B dX4_put_49 hv ?_
      refine x_aload_n (pc := 50) B 0 dX4_put_50 rfl rfl ?_
      refine x_dup (pc := 51) B dX4_put_51 rfl ?_
      obtain ⟨v8, hv, h⟩ := xbind h
      refine x_getI (k0 := 6) (pc := 52) B dX4_put_52 rfl xi_4 (by decide) ⟨rfl, rfl, rfl⟩ xt_608 hv ?_
      refine x_iconst (pc := 55) B dX4_put_55 xk_iconst_1 ?_
      refine x_iadd (pc := 56) B dX4_put_56 ?_
      obtain ⟨w9, hv, h⟩ := xbind h
      refine x_putI (k0 := 6) (pc := 57) B dX4_put_57 rfl xi_4 (by decide) ⟨rfl, rfl, rfl⟩ xt_608 tyX4_ok nmX4 rfl xpdI hv ?_
      refine x_iinc (L1 := [(4, .int (i4 + (-1 : Int32))), (0, .ref a0), (1, .long l1)]) (pc := 60) B 2 dX4_put_60 rfl (congrArg _ xk_iconst_m1) (by decide) rfl ?_
      refine x_goto (tgt := 30) (pc := 63) B dX4_put_63 (by decide) ?_
      refine x_sub (L1 := [(0, .ref a0), (1, .long l1), (4, .int (i4 + (-1 : Int32)))]) [1, 2, 0] rfl ?_
      exact ih a0 l1 (i4 + (-1 : Int32)) w9 h
def fX4_put (a0 : Nat) (l1 : Int64) (w : XW) : Option (Int32 × XW) := if xis w a0 4 = true then
  (fX4_toldBy l1 w).bind fun q1 =>
  if (0 : Int32) ≤ q1.1 then
    (xgI q1.2 a0 4 6).bind fun v2 =>
    if (v2 + q1.1) ≤ (80 : Int32) then
      fX4_put_30 1000 a0 l1 (q1.1 - (1 : Int32)) q1.2
    else
    some ((-4 : Int32), q1.2)
  else
  some (q1.1, q1.2)
  else none
theorem iX4_put {a0 : Nat} {l1 : Int64} {w : XW} {R9 : (Int32 × XW)} (h : fX4_put a0 l1 w = some R9) : xis w a0 4 = true := by
  unfold fX4_put at h
  rcases xite h with ⟨hc, h⟩ | ⟨hc, h⟩
  · exact hc
  · exact absurd h (by simp)
theorem np_X4_put : (parseMethodDescriptor yX4_put.desc).map (fun d => d.parameters.length) = some 1 := by decide +kernel
theorem hy_X4_put : yX4_put.cls ≠ "java/lang/invoke/MethodHandle" ∧ yX4_put.cls ≠ "java/lang/invoke/VarHandle" := ⟨by decide +kernel, by decide +kernel⟩
set_option maxRecDepth 20000 in
theorem eX4_put {cx : CX} {a0 : Nat} {l1 : Int64} {w : XW} {R9 : (Int32 × XW)} (h : fX4_put a0 l1 w = some R9) : Ct yX4_put cX4_put 5 (some .int) 2 45 cx [.ref a0, .long l1] w (some (.int R9.1)) R9.2 := by
  refine Ct_of (by decide +kernel) (Nat.le_of_ble_eq_true rfl) (fun K B hR => ?_)
  rw [fX4_put] at h
  show Wx K cx 5 w.length 0 [(0, .ref a0), (1, .long l1)] [] w
  rcases xite h with ⟨hc, h⟩ | ⟨hc, h⟩
  · skip
    refine x_lload_n (pc := 0) B 1 dX4_put_0 rfl rfl ?_
    obtain ⟨q1, hq, h⟩ := xbind h
    refine x_callS1 (st := []) (pc := 1) B dX4_put_1 (eX4_toldBy hq) xt_854 xt_58 np_X4_toldBy hy_X4_toldBy (Nat.le_of_ble_eq_true rfl) (Nat.le_of_ble_eq_true rfl) (Nat.le_of_ble_eq_true rfl) xt_853 xt_852 rfl ?_
    refine x_istore_n (L1 := [(3, .int q1.1), (0, .ref a0), (1, .long l1)]) (pc := 4) B dX4_put_4 rfl (by decide) rfl ?_
    refine x_iload_n (pc := 5) B 0 dX4_put_5 rfl rfl ?_
    rcases xite h with ⟨hc, h⟩ | ⟨hc, h⟩
    · refine x_if_ge_t (tgt := 11) (pc := 6) B dX4_put_6 (by decide) hc ?_
      refine x_aload_n (pc := 11) B 1 dX4_put_11 rfl rfl ?_
      obtain ⟨v2, hv, h⟩ := xbind h
      refine x_getI (k0 := 6) (pc := 12) B dX4_put_12 rfl xi_4 (by decide) ⟨rfl, rfl, rfl⟩ xt_608 hv ?_
      refine x_iload_n (pc := 15) B 0 dX4_put_15 rfl rfl ?_
      refine x_iadd (pc := 16) B dX4_put_16 ?_
      refine x_bipush (pc := 17) B dX4_put_17 xk_bipush_80 ?_
      rcases xite h with ⟨hc, h⟩ | ⟨hc, h⟩
      · refine x_icmp_le_t (tgt := 25) (pc := 19) B dX4_put_19 (by decide) hc ?_
        refine x_iload_n (pc := 25) B 0 dX4_put_25 rfl rfl ?_
        refine x_iconst (pc := 26) B dX4_put_26 xk_iconst_1 ?_
        refine x_isub (pc := 27) B dX4_put_27 ?_
        refine x_istore (L1 := [(4, .int (q1.1 - (1 : Int32))), (3, .int q1.1), (0, .ref a0), (1, .long l1)]) (pc := 28) B dX4_put_28 (by decide) rfl ?_
        refine x_sub (L1 := [(0, .ref a0), (1, .long l1), (4, .int (q1.1 - (1 : Int32)))]) [2, 3, 0] rfl ?_
        exact pX4_put_30 B hR 1000 a0 l1 (q1.1 - (1 : Int32)) q1.2 h
      · refine x_icmp_le_f (pc := 19) B 25 dX4_put_19 (by decide) hc ?_
        refine x_bipush (pc := 22) B dX4_put_22 xk_bipush_m4 ?_
        exact x_iret (pc := 24) B hR dX4_put_24 (xzI _) h
    · refine x_if_ge_f (pc := 6) B 11 dX4_put_6 (by decide) hc ?_
      refine x_iload_n (pc := 9) B 0 dX4_put_9 rfl rfl ?_
      exact x_iret (pc := 10) B hR dX4_put_10 (xzI _) h
  · exact absurd h (by simp)
def fX4_wipe (a0 : Nat) (w : XW) : Option (Int32 × XW) := if xis w a0 4 = true then
  (xgI w a0 4 6).bind fun v1 =>
  (xpI w a0 4 6 (0 : Int32)).bind fun w2 =>
  some (v1, w2)
  else none
theorem iX4_wipe {a0 : Nat} {w : XW} {R9 : (Int32 × XW)} (h : fX4_wipe a0 w = some R9) : xis w a0 4 = true := by
  unfold fX4_wipe at h
  rcases xite h with ⟨hc, h⟩ | ⟨hc, h⟩
  · exact hc
  · exact absurd h (by simp)
theorem np_X4_wipe : (parseMethodDescriptor yX4_wipe.desc).map (fun d => d.parameters.length) = some 0 := by decide +kernel
theorem hy_X4_wipe : yX4_wipe.cls ≠ "java/lang/invoke/MethodHandle" ∧ yX4_wipe.cls ≠ "java/lang/invoke/VarHandle" := ⟨by decide +kernel, by decide +kernel⟩
set_option maxRecDepth 20000 in
theorem eX4_wipe {cx : CX} {a0 : Nat} {w : XW} {R9 : (Int32 × XW)} (h : fX4_wipe a0 w = some R9) : Ct yX4_wipe cX4_wipe 2 (some .int) 0 0 cx [.ref a0] w (some (.int R9.1)) R9.2 := by
  refine Ct_of (by decide +kernel) (Nat.le_of_ble_eq_true rfl) (fun K B hR => ?_)
  rw [fX4_wipe] at h
  show Wx K cx 2 w.length 0 [(0, .ref a0)] [] w
  rcases xite h with ⟨hc, h⟩ | ⟨hc, h⟩
  · skip
    refine x_aload_n (pc := 0) B 0 dX4_wipe_0 rfl rfl ?_
    obtain ⟨v1, hv, h⟩ := xbind h
    refine x_getI (k0 := 6) (pc := 1) B dX4_wipe_1 rfl xi_4 (by decide) ⟨rfl, rfl, rfl⟩ xt_608 hv ?_
    refine x_istore_n (L1 := [(1, .int v1), (0, .ref a0)]) (pc := 4) B dX4_wipe_4 rfl (by decide) rfl ?_
    refine x_aload_n (pc := 5) B 1 dX4_wipe_5 rfl rfl ?_
    refine x_iconst (pc := 6) B dX4_wipe_6 xk_iconst_0 ?_
    obtain ⟨w2, hv, h⟩ := xbind h
    refine x_putI (k0 := 6) (pc := 7) B dX4_wipe_7 rfl xi_4 (by decide) ⟨rfl, rfl, rfl⟩ xt_608 tyX4_ok nmX4 rfl xpdI hv ?_
    refine x_iload_n (pc := 10) B 0 dX4_wipe_10 rfl rfl ?_
    exact x_iret (pc := 11) B hR dX4_wipe_11 (xzI _) h
  · exact absurd h (by simp)
def fX4_isAt (a0 : Nat) (i1 : Int32) (i2 : Int32) (w : XW) : Option (Int32 × XW) := if xis w a0 4 = true then
  (xgI w a0 4 7).bind fun v1 =>
  (xgI w a0 4 6).bind fun v2 =>
  if v2 ≤ v1 then
    some ((0 : Int32), w)
  else
  (xgR w a0 4 5).bind fun v3 =>
  (xgI w a0 4 7).bind fun v4 =>
  (xaI w v3 v4).bind fun v5 =>
  (fX4_in v5 i1 i2 w).bind fun q6 =>
  if q6.1 = (0 : Int32) then
    some ((0 : Int32), q6.2)
  else
  some ((1 : Int32), q6.2)
  else none
theorem iX4_isAt {a0 : Nat} {i1 : Int32} {i2 : Int32} {w : XW} {R9 : (Int32 × XW)} (h : fX4_isAt a0 i1 i2 w = some R9) : xis w a0 4 = true := by
  unfold fX4_isAt at h
  rcases xite h with ⟨hc, h⟩ | ⟨hc, h⟩
  · exact hc
  · exact absurd h (by simp)
theorem np_X4_isAt : (parseMethodDescriptor yX4_isAt.desc).map (fun d => d.parameters.length) = some 2 := by decide +kernel
theorem hy_X4_isAt : yX4_isAt.cls ≠ "java/lang/invoke/MethodHandle" ∧ yX4_isAt.cls ≠ "java/lang/invoke/VarHandle" := ⟨by decide +kernel, by decide +kernel⟩
set_option maxRecDepth 20000 in
theorem eX4_isAt {cx : CX} {a0 : Nat} {i1 : Int32} {i2 : Int32} {w : XW} {R9 : (Int32 × XW)} (h : fX4_isAt a0 i1 i2 w = some R9) : Ct yX4_isAt cX4_isAt 3 (some .boolean) 1 22 cx [.ref a0, .int i1, .int i2] w (some (.int R9.1)) R9.2 := by
  refine Ct_of (by decide +kernel) (Nat.le_of_ble_eq_true rfl) (fun K B hR => ?_)
  rw [fX4_isAt] at h
  show Wx K cx 3 w.length 0 [(0, .ref a0), (1, .int i1), (2, .int i2)] [] w
  rcases xite h with ⟨hc, h⟩ | ⟨hc, h⟩
  · skip
    refine x_aload_n (pc := 0) B 0 dX4_isAt_0 rfl rfl ?_
    obtain ⟨v1, hv, h⟩ := xbind h
    refine x_getI (k0 := 7) (pc := 1) B dX4_isAt_1 rfl xi_4 (by decide) ⟨rfl, rfl, rfl⟩ xt_609 hv ?_
    refine x_aload_n (pc := 4) B 0 dX4_isAt_4 rfl rfl ?_
    obtain ⟨v2, hv, h⟩ := xbind h
    refine x_getI (k0 := 6) (pc := 5) B dX4_isAt_5 rfl xi_4 (by decide) ⟨rfl, rfl, rfl⟩ xt_608 hv ?_
    rcases xite h with ⟨hc, h⟩ | ⟨hc, h⟩
    · refine x_icmp_ge_t (tgt := 32) (pc := 8) B dX4_isAt_8 (by decide) hc ?_
      refine x_iconst (pc := 32) B dX4_isAt_32 xk_iconst_0 ?_
      exact x_iret (pc := 33) B hR dX4_isAt_33 xz0 h
    · refine x_icmp_ge_f (pc := 8) B 32 dX4_isAt_8 (by decide) hc ?_
      refine x_aload_n (pc := 11) B 0 dX4_isAt_11 rfl rfl ?_
      obtain ⟨v3, hv, h⟩ := xbind h
      refine x_getR (k0 := 5) (pc := 12) B dX4_isAt_12 rfl xi_4 (by decide) ⟨rfl, rfl, rfl⟩ xt_607 hv ?_
      refine x_aload_n (pc := 15) B 0 dX4_isAt_15 rfl rfl ?_
      obtain ⟨v4, hv, h⟩ := xbind h
      refine x_getI (k0 := 7) (pc := 16) B dX4_isAt_16 rfl xi_4 (by decide) ⟨rfl, rfl, rfl⟩ xt_609 hv ?_
      obtain ⟨v5, hv, h⟩ := xbind h
      refine x_iald (pc := 19) B dX4_isAt_19 hv ?_
      refine x_iload_n (pc := 20) B 1 dX4_isAt_20 rfl rfl ?_
      refine x_iload_n (pc := 21) B 2 dX4_isAt_21 rfl rfl ?_
      obtain ⟨q6, hq, h⟩ := xbind h
      refine x_callS1 (st := []) (pc := 22) B dX4_isAt_22 (eX4_in hq) xt_639 xt_58 np_X4_in hy_X4_in (Nat.le_of_ble_eq_true rfl) (Nat.le_of_ble_eq_true rfl) (Nat.le_of_ble_eq_true rfl) xt_638 xt_637 rfl ?_
      rcases xite h with ⟨hc, h⟩ | ⟨hc, h⟩
      · refine x_if_eq_t (tgt := 32) (pc := 25) B dX4_isAt_25 (by decide) hc ?_
        refine x_iconst (pc := 32) B dX4_isAt_32 xk_iconst_0 ?_
        exact x_iret (pc := 33) B hR dX4_isAt_33 xz0 h
      · refine x_if_eq_f (pc := 25) B 32 dX4_isAt_25 (by decide) hc ?_
        refine x_iconst (pc := 28) B dX4_isAt_28 xk_iconst_1 ?_
        refine x_goto (tgt := 33) (pc := 29) B dX4_isAt_29 (by decide) ?_
        exact x_iret (pc := 33) B hR dX4_isAt_33 xz1 h
  · exact absurd h (by simp)
def fX4_isFigure (a0 : Nat) (i1 : Int32) (i2 : Int32) (w : XW) : Option (Int32 × XW) := if xis w a0 4 = true then
  (fX4_isAt a0 (48 : Int32) i2 w).bind fun q1 =>
  if q1.1 = (0 : Int32) then
    some ((0 : Int32), q1.2)
  else
  (xgR q1.2 a0 4 8).bind fun v2 =>
  (xgI q1.2 a0 4 9).bind fun v3 =>
  (xgR q1.2 a0 4 5).bind fun v4 =>
  (xgI q1.2 a0 4 7).bind fun v5 =>
  (xaI q1.2 v4 v5).bind fun v6 =>
  (xsI q1.2 v2 (((5 : Int32) * v3) + i1) (v6 - (48 : Int32))).bind fun w7 =>
  (xgI w7 a0 4 7).bind fun v8 =>
  (xpI w7 a0 4 7 (v8 + (1 : Int32))).bind fun w9 =>
  some ((1 : Int32), w9)
  else none
theorem iX4_isFigure {a0 : Nat} {i1 : Int32} {i2 : Int32} {w : XW} {R9 : (Int32 × XW)} (h : fX4_isFigure a0 i1 i2 w = some R9) : xis w a0 4 = true := by
  unfold fX4_isFigure at h
  rcases xite h with ⟨hc, h⟩ | ⟨hc, h⟩
  · exact hc
  · exact absurd h (by simp)
theorem np_X4_isFigure : (parseMethodDescriptor yX4_isFigure.desc).map (fun d => d.parameters.length) = some 2 := by decide +kernel
theorem hy_X4_isFigure : yX4_isFigure.cls ≠ "java/lang/invoke/MethodHandle" ∧ yX4_isFigure.cls ≠ "java/lang/invoke/VarHandle" := ⟨by decide +kernel, by decide +kernel⟩
set_option maxRecDepth 20000 in
theorem eX4_isFigure {cx : CX} {a0 : Nat} {i1 : Int32} {i2 : Int32} {w : XW} {R9 : (Int32 × XW)} (h : fX4_isFigure a0 i1 i2 w = some R9) : Ct yX4_isFigure cX4_isFigure 3 (some .boolean) 2 44 cx [.ref a0, .int i1, .int i2] w (some (.int R9.1)) R9.2 := by
  refine Ct_of (by decide +kernel) (Nat.le_of_ble_eq_true rfl) (fun K B hR => ?_)
  rw [fX4_isFigure] at h
  show Wx K cx 3 w.length 0 [(0, .ref a0), (1, .int i1), (2, .int i2)] [] w
  rcases xite h with ⟨hc, h⟩ | ⟨hc, h⟩
  · skip
    refine x_aload_n (pc := 0) B 0 dX4_isFigure_0 rfl rfl ?_
    refine x_bipush (pc := 1) B dX4_isFigure_1 xk_bipush_48 ?_
    refine x_iload_n (pc := 3) B 2 dX4_isFigure_3 rfl rfl ?_
    obtain ⟨q1, hq, h⟩ := xbind h
    refine x_callV1 (st := []) (pc := 4) B dX4_isFigure_4 (eX4_isAt hq) xt_882 xt_58 np_X4_isAt hy_X4_isAt (Nat.le_of_ble_eq_true rfl) (Nat.le_of_ble_eq_true rfl) (Nat.le_of_ble_eq_true rfl) xt_881 xt_48 xt_879 rfl (iX4_isAt hq) rfl ?_
    rcases xite h with ⟨hc, h⟩ | ⟨hc, h⟩
    · refine x_if_ne_f (pc := 7) B 12 dX4_isFigure_7 (by decide) hc ?_
      refine x_iconst (pc := 10) B dX4_isFigure_10 xk_iconst_0 ?_
      exact x_iret (pc := 11) B hR dX4_isFigure_11 xz0 h
    · refine x_if_ne_t (tgt := 12) (pc := 7) B dX4_isFigure_7 (by decide) hc ?_
      refine x_aload_n (pc := 12) B 0 dX4_isFigure_12 rfl rfl ?_
      obtain ⟨v2, hv, h⟩ := xbind h
      refine x_getR (k0 := 8) (pc := 13) B dX4_isFigure_13 rfl xi_4 (by decide) ⟨rfl, rfl, rfl⟩ xt_610 hv ?_
      refine x_iconst (pc := 16) B dX4_isFigure_16 xk_iconst_5 ?_
      refine x_aload_n (pc := 17) B 0 dX4_isFigure_17 rfl rfl ?_
      obtain ⟨v3, hv, h⟩ := xbind h
      refine x_getI (k0 := 9) (pc := 18) B dX4_isFigure_18 rfl xi_4 (by decide) ⟨rfl, rfl, rfl⟩ xt_611 hv ?_
      refine x_imul (pc := 21) B dX4_isFigure_21 ?_
      refine x_iload_n (pc := 22) B 1 dX4_isFigure_22 rfl rfl ?_
      refine x_iadd (pc := 23) B dX4_isFigure_23 ?_
      refine x_aload_n (pc := 24) B 0 dX4_isFigure_24 rfl rfl ?_
      obtain ⟨v4, hv, h⟩ := xbind h
      refine x_getR (k0 := 5) (pc := 25) B dX4_isFigure_25 rfl xi_4 (by decide) ⟨rfl, rfl, rfl⟩ xt_607 hv ?_
      refine x_aload_n (pc := 28) B 0 dX4_isFigure_28 rfl rfl ?_
      obtain ⟨v5, hv, h⟩ := xbind h
      refine x_getI (k0 := 7) (pc := 29) B dX4_isFigure_29 rfl xi_4 (by decide) ⟨rfl, rfl, rfl⟩ xt_609 hv ?_
      obtain ⟨v6, hv, h⟩ := xbind h
      refine x_iald (pc := 32) B dX4_isFigure_32 hv ?_
      refine x_bipush (pc := 33) B dX4_isFigure_33 xk_bipush_48 ?_
      refine x_isub (pc := 35) B dX4_isFigure_35 ?_
      obtain ⟨w7, hv, h⟩ := xbind h
      refine x_iast (pc := 36) B dX4_isFigure_36 hv ?_
      refine x_aload_n (pc := 37) B 0 dX4_isFigure_37 rfl rfl ?_
      refine x_dup (pc := 38) B dX4_isFigure_38 rfl ?_
      obtain ⟨v8, hv, h⟩ := xbind h
      refine x_getI (k0 := 7) (pc := 39) B dX4_isFigure_39 rfl xi_4 (by decide) ⟨rfl, rfl, rfl⟩ xt_609 hv ?_
      refine x_iconst (pc := 42) B dX4_isFigure_42 xk_iconst_1 ?_
      refine x_iadd (pc := 43) B dX4_isFigure_43 ?_
      obtain ⟨w9, hv, h⟩ := xbind h
      refine x_putI (k0 := 7) (pc := 44) B dX4_isFigure_44 rfl xi_4 (by decide) ⟨rfl, rfl, rfl⟩ xt_609 tyX4_ok nmX4 rfl xpdI hv ?_
      refine x_iconst (pc := 47) B dX4_isFigure_47 xk_iconst_1 ?_
      exact x_iret (pc := 48) B hR dX4_isFigure_48 xz1 h
  · exact absurd h (by simp)
def fX4_isSign (a0 : Nat) (i1 : Int32) (w : XW) : Option (Int32 × XW) := if xis w a0 4 = true then
  (fX4_isAt a0 i1 i1 w).bind fun q1 =>
  (xgI q1.2 a0 4 7).bind fun v2 =>
  if q1.1 = (0 : Int32) then
    (xpI q1.2 a0 4 7 (v2 + (0 : Int32))).bind fun w3 =>
    if vp_nar .boolean q1.1 = q1.1 then some (q1.1, w3) else none
  else
  (xpI q1.2 a0 4 7 (v2 + (1 : Int32))).bind fun w4 =>
  if vp_nar .boolean q1.1 = q1.1 then some (q1.1, w4) else none
  else none
theorem iX4_isSign {a0 : Nat} {i1 : Int32} {w : XW} {R9 : (Int32 × XW)} (h : fX4_isSign a0 i1 w = some R9) : xis w a0 4 = true := by
  unfold fX4_isSign at h
  rcases xite h with ⟨hc, h⟩ | ⟨hc, h⟩
  · exact hc
  · exact absurd h (by simp)
theorem np_X4_isSign : (parseMethodDescriptor yX4_isSign.desc).map (fun d => d.parameters.length) = some 1 := by decide +kernel
theorem hy_X4_isSign : yX4_isSign.cls ≠ "java/lang/invoke/MethodHandle" ∧ yX4_isSign.cls ≠ "java/lang/invoke/VarHandle" := ⟨by decide +kernel, by decide +kernel⟩
set_option maxRecDepth 20000 in
theorem eX4_isSign {cx : CX} {a0 : Nat} {i1 : Int32} {w : XW} {R9 : (Int32 × XW)} (h : fX4_isSign a0 i1 w = some R9) : Ct yX4_isSign cX4_isSign 3 (some .boolean) 2 44 cx [.ref a0, .int i1] w (some (.int R9.1)) R9.2 := by
  refine Ct_of (by decide +kernel) (Nat.le_of_ble_eq_true rfl) (fun K B hR => ?_)
  rw [fX4_isSign] at h
  show Wx K cx 3 w.length 0 [(0, .ref a0), (1, .int i1)] [] w
  rcases xite h with ⟨hc, h⟩ | ⟨hc, h⟩
  · skip
    refine x_aload_n (pc := 0) B 0 dX4_isSign_0 rfl rfl ?_
    refine x_iload_n (pc := 1) B 1 dX4_isSign_1 rfl rfl ?_
    refine x_iload_n (pc := 2) B 1 dX4_isSign_2 rfl rfl ?_
    obtain ⟨q1, hq, h⟩ := xbind h
    refine x_callV1 (st := []) (pc := 3) B dX4_isSign_3 (eX4_isAt hq) xt_882 xt_58 np_X4_isAt hy_X4_isAt (Nat.le_of_ble_eq_true rfl) (Nat.le_of_ble_eq_true rfl) (Nat.le_of_ble_eq_true rfl) xt_881 xt_48 xt_879 rfl (iX4_isAt hq) rfl ?_
    refine x_istore_n (L1 := [(2, .int q1.1), (0, .ref a0), (1, .int i1)]) (pc := 6) B dX4_isSign_6 rfl (by decide) rfl ?_
    refine x_aload_n (pc := 7) B 1 dX4_isSign_7 rfl rfl ?_
    refine x_dup (pc := 8) B dX4_isSign_8 rfl ?_
    obtain ⟨v2, hv, h⟩ := xbind h
    refine x_getI (k0 := 7) (pc := 9) B dX4_isSign_9 rfl xi_4 (by decide) ⟨rfl, rfl, rfl⟩ xt_609 hv ?_
    refine x_iload_n (pc := 12) B 0 dX4_isSign_12 rfl rfl ?_
    rcases xite h with ⟨hc, h⟩ | ⟨hc, h⟩
    · refine x_if_eq_t (tgt := 20) (pc := 13) B dX4_isSign_13 (by decide) hc ?_
      refine x_iconst (pc := 20) B dX4_isSign_20 xk_iconst_0 ?_
      refine x_iadd (pc := 21) B dX4_isSign_21 ?_
      obtain ⟨w3, hv, h⟩ := xbind h
      refine x_putI (k0 := 7) (pc := 22) B dX4_isSign_22 rfl xi_4 (by decide) ⟨rfl, rfl, rfl⟩ xt_609 tyX4_ok nmX4 rfl xpdI hv ?_
      refine x_iload_n (pc := 25) B 0 dX4_isSign_25 rfl rfl ?_
      rcases xite h with ⟨hc, h⟩ | ⟨hc, h⟩
      · exact x_iret (pc := 26) B hR dX4_isSign_26 (xnar (Or.inl rfl) hc) h
      · exact absurd h (by simp)
    · refine x_if_eq_f (pc := 13) B 20 dX4_isSign_13 (by decide) hc ?_
      refine x_iconst (pc := 16) B dX4_isSign_16 xk_iconst_1 ?_
      refine x_goto (tgt := 21) (pc := 17) B dX4_isSign_17 (by decide) ?_
      refine x_iadd (pc := 21) B dX4_isSign_21 ?_
      obtain ⟨w4, hv, h⟩ := xbind h
      refine x_putI (k0 := 7) (pc := 22) B dX4_isSign_22 rfl xi_4 (by decide) ⟨rfl, rfl, rfl⟩ xt_609 tyX4_ok nmX4 rfl xpdI hv ?_
      refine x_iload_n (pc := 25) B 0 dX4_isSign_25 rfl rfl ?_
      rcases xite h with ⟨hc, h⟩ | ⟨hc, h⟩
      · exact x_iret (pc := 26) B hR dX4_isSign_26 (xnar (Or.inl rfl) hc) h
      · exact absurd h (by simp)
  · exact absurd h (by simp)
def fX4_isPay (a0 : Nat) (w : XW) : Option (Int32 × XW) := if xis w a0 4 = true then
  (fX4_isFigure a0 (1 : Int32) (50 : Int32) w).bind fun q1 =>
  if q1.1 = (0 : Int32) then
    some ((0 : Int32), q1.2)
  else
  (fX4_isFigure a0 (2 : Int32) (50 : Int32) q1.2).bind fun q2 =>
  if q2.1 = (0 : Int32) then
    some ((0 : Int32), q2.2)
  else
  (fX4_isFigure a0 (3 : Int32) (50 : Int32) q2.2).bind fun q3 =>
  if q3.1 = (0 : Int32) then
    some ((0 : Int32), q3.2)
  else
  (fX4_isSign a0 (61 : Int32) q3.2).bind fun q4 =>
  if q4.1 = (0 : Int32) then
    some ((0 : Int32), q4.2)
  else
  (fX4_isSign a0 (45 : Int32) q4.2).bind fun q5 =>
  (fX4_isFigure a0 (4 : Int32) (57 : Int32) q5.2).bind fun q6 =>
  (xgR q6.2 a0 4 8).bind fun v7 =>
  (xgI q6.2 a0 4 9).bind fun v8 =>
  (xaI q6.2 v7 (((5 : Int32) * v8) + (4 : Int32))).bind fun v9 =>
  if q5.1 = (0 : Int32) then
    (xsI q6.2 v7 (((5 : Int32) * v8) + (4 : Int32)) (v9 * (1 : Int32))).bind fun w10 =>
    if vp_nar .boolean q6.1 = q6.1 then some (q6.1, w10) else none
  else
  (xsI q6.2 v7 (((5 : Int32) * v8) + (4 : Int32)) (v9 * (-1 : Int32))).bind fun w11 =>
  if vp_nar .boolean q6.1 = q6.1 then some (q6.1, w11) else none
  else none
theorem iX4_isPay {a0 : Nat} {w : XW} {R9 : (Int32 × XW)} (h : fX4_isPay a0 w = some R9) : xis w a0 4 = true := by
  unfold fX4_isPay at h
  rcases xite h with ⟨hc, h⟩ | ⟨hc, h⟩
  · exact hc
  · exact absurd h (by simp)
theorem np_X4_isPay : (parseMethodDescriptor yX4_isPay.desc).map (fun d => d.parameters.length) = some 0 := by decide +kernel
theorem hy_X4_isPay : yX4_isPay.cls ≠ "java/lang/invoke/MethodHandle" ∧ yX4_isPay.cls ≠ "java/lang/invoke/VarHandle" := ⟨by decide +kernel, by decide +kernel⟩
set_option maxRecDepth 20000 in
theorem eX4_isPay {cx : CX} {a0 : Nat} {w : XW} {R9 : (Int32 × XW)} (h : fX4_isPay a0 w = some R9) : Ct yX4_isPay cX4_isPay 3 (some .boolean) 3 66 cx [.ref a0] w (some (.int R9.1)) R9.2 := by
  refine Ct_of (by decide +kernel) (Nat.le_of_ble_eq_true rfl) (fun K B hR => ?_)
  rw [fX4_isPay] at h
  show Wx K cx 3 w.length 0 [(0, .ref a0)] [] w
  rcases xite h with ⟨hc, h⟩ | ⟨hc, h⟩
  · skip
    refine x_aload_n (pc := 0) B 0 dX4_isPay_0 rfl rfl ?_
    refine x_iconst (pc := 1) B dX4_isPay_1 xk_iconst_1 ?_
    refine x_bipush (pc := 2) B dX4_isPay_2 xk_bipush_50 ?_
    obtain ⟨q1, hq, h⟩ := xbind h
    refine x_callV1 (st := []) (pc := 4) B dX4_isPay_4 (eX4_isFigure hq) xt_878 xt_58 np_X4_isFigure hy_X4_isFigure (Nat.le_of_ble_eq_true rfl) (Nat.le_of_ble_eq_true rfl) (Nat.le_of_ble_eq_true rfl) xt_877 xt_47 xt_875 rfl (iX4_isFigure hq) rfl ?_
    rcases xite h with ⟨hc, h⟩ | ⟨hc, h⟩
    · refine x_if_eq_t (tgt := 39) (pc := 7) B dX4_isPay_7 (by decide) hc ?_
      refine x_iconst (pc := 39) B dX4_isPay_39 xk_iconst_0 ?_
      exact x_iret (pc := 40) B hR dX4_isPay_40 xz0 h
    · refine x_if_eq_f (pc := 7) B 39 dX4_isPay_7 (by decide) hc ?_
      refine x_aload_n (pc := 10) B 0 dX4_isPay_10 rfl rfl ?_
      refine x_iconst (pc := 11) B dX4_isPay_11 xk_iconst_2 ?_
      refine x_bipush (pc := 12) B dX4_isPay_12 xk_bipush_50 ?_
      obtain ⟨q2, hq, h⟩ := xbind h
      refine x_callV1 (st := []) (pc := 14) B dX4_isPay_14 (eX4_isFigure hq) xt_878 xt_58 np_X4_isFigure hy_X4_isFigure (Nat.le_of_ble_eq_true rfl) (Nat.le_of_ble_eq_true rfl) (Nat.le_of_ble_eq_true rfl) xt_877 xt_47 xt_875 rfl (iX4_isFigure hq) rfl ?_
      rcases xite h with ⟨hc, h⟩ | ⟨hc, h⟩
      · refine x_if_eq_t (tgt := 39) (pc := 17) B dX4_isPay_17 (by decide) hc ?_
        refine x_iconst (pc := 39) B dX4_isPay_39 xk_iconst_0 ?_
        exact x_iret (pc := 40) B hR dX4_isPay_40 xz0 h
      · refine x_if_eq_f (pc := 17) B 39 dX4_isPay_17 (by decide) hc ?_
        refine x_aload_n (pc := 20) B 0 dX4_isPay_20 rfl rfl ?_
        refine x_iconst (pc := 21) B dX4_isPay_21 xk_iconst_3 ?_
        refine x_bipush (pc := 22) B dX4_isPay_22 xk_bipush_50 ?_
        obtain ⟨q3, hq, h⟩ := xbind h
        refine x_callV1 (st := []) (pc := 24) B dX4_isPay_24 (eX4_isFigure hq) xt_878 xt_58 np_X4_isFigure hy_X4_isFigure (Nat.le_of_ble_eq_true rfl) (Nat.le_of_ble_eq_true rfl) (Nat.le_of_ble_eq_true rfl) xt_877 xt_47 xt_875 rfl (iX4_isFigure hq) rfl ?_
        rcases xite h with ⟨hc, h⟩ | ⟨hc, h⟩
        · refine x_if_eq_t (tgt := 39) (pc := 27) B dX4_isPay_27 (by decide) hc ?_
          refine x_iconst (pc := 39) B dX4_isPay_39 xk_iconst_0 ?_
          exact x_iret (pc := 40) B hR dX4_isPay_40 xz0 h
        · refine x_if_eq_f (pc := 27) B 39 dX4_isPay_27 (by decide) hc ?_
          refine x_aload_n (pc := 30) B 0 dX4_isPay_30 rfl rfl ?_
          refine x_bipush (pc := 31) B dX4_isPay_31 xk_bipush_61 ?_
          obtain ⟨q4, hq, h⟩ := xbind h
          refine x_callV1 (st := []) (pc := 33) B dX4_isPay_33 (eX4_isSign hq) xt_886 xt_58 np_X4_isSign hy_X4_isSign (Nat.le_of_ble_eq_true rfl) (Nat.le_of_ble_eq_true rfl) (Nat.le_of_ble_eq_true rfl) xt_885 xt_49 xt_883 rfl (iX4_isSign hq) rfl ?_
          rcases xite h with ⟨hc, h⟩ | ⟨hc, h⟩
          · refine x_if_ne_f (pc := 36) B 41 dX4_isPay_36 (by decide) hc ?_
            refine x_iconst (pc := 39) B dX4_isPay_39 xk_iconst_0 ?_
            exact x_iret (pc := 40) B hR dX4_isPay_40 xz0 h
          · refine x_if_ne_t (tgt := 41) (pc := 36) B dX4_isPay_36 (by decide) hc ?_
            refine x_aload_n (pc := 41) B 0 dX4_isPay_41 rfl rfl ?_
            refine x_bipush (pc := 42) B dX4_isPay_42 xk_bipush_45 ?_
            obtain ⟨q5, hq, h⟩ := xbind h
            refine x_callV1 (st := []) (pc := 44) B dX4_isPay_44 (eX4_isSign hq) xt_886 xt_58 np_X4_isSign hy_X4_isSign (Nat.le_of_ble_eq_true rfl) (Nat.le_of_ble_eq_true rfl) (Nat.le_of_ble_eq_true rfl) xt_885 xt_49 xt_883 rfl (iX4_isSign hq) rfl ?_
            refine x_istore_n (L1 := [(1, .int q5.1), (0, .ref a0)]) (pc := 47) B dX4_isPay_47 rfl (by decide) rfl ?_
            refine x_aload_n (pc := 48) B 1 dX4_isPay_48 rfl rfl ?_
            refine x_iconst (pc := 49) B dX4_isPay_49 xk_iconst_4 ?_
            refine x_bipush (pc := 50) B dX4_isPay_50 xk_bipush_57 ?_
            obtain ⟨q6, hq, h⟩ := xbind h
            refine x_callV1 (st := []) (pc := 52) B dX4_isPay_52 (eX4_isFigure hq) xt_878 xt_58 np_X4_isFigure hy_X4_isFigure (Nat.le_of_ble_eq_true rfl) (Nat.le_of_ble_eq_true rfl) (Nat.le_of_ble_eq_true rfl) xt_877 xt_47 xt_875 rfl (iX4_isFigure hq) rfl ?_
            refine x_istore_n (L1 := [(2, .int q6.1), (1, .int q5.1), (0, .ref a0)]) (pc := 55) B dX4_isPay_55 rfl (by decide) rfl ?_
            refine x_aload_n (pc := 56) B 2 dX4_isPay_56 rfl rfl ?_
            obtain ⟨v7, hv, h⟩ := xbind h
            refine x_getR (k0 := 8) (pc := 57) B dX4_isPay_57 rfl xi_4 (by decide) ⟨rfl, rfl, rfl⟩ xt_610 hv ?_
            refine x_iconst (pc := 60) B dX4_isPay_60 xk_iconst_5 ?_
            refine x_aload_n (pc := 61) B 2 dX4_isPay_61 rfl rfl ?_
            obtain ⟨v8, hv, h⟩ := xbind h
            refine x_getI (k0 := 9) (pc := 62) B dX4_isPay_62 rfl xi_4 (by decide) ⟨rfl, rfl, rfl⟩ xt_611 hv ?_
            refine x_imul (pc := 65) B dX4_isPay_65 ?_
            refine x_iconst (pc := 66) B dX4_isPay_66 xk_iconst_4 ?_
            refine x_iadd (pc := 67) B dX4_isPay_67 ?_
            refine x_dup2 (pc := 68) B dX4_isPay_68 rfl rfl ?_
            obtain ⟨v9, hv, h⟩ := xbind h
            refine x_iald (pc := 69) B dX4_isPay_69 hv ?_
            refine x_iload_n (pc := 70) B 1 dX4_isPay_70 rfl rfl ?_
            rcases xite h with ⟨hc, h⟩ | ⟨hc, h⟩
            · refine x_if_eq_t (tgt := 78) (pc := 71) B dX4_isPay_71 (by decide) hc ?_
              refine x_iconst (pc := 78) B dX4_isPay_78 xk_iconst_1 ?_
              refine x_imul (pc := 79) B dX4_isPay_79 ?_
              obtain ⟨w10, hv, h⟩ := xbind h
              refine x_iast (pc := 80) B dX4_isPay_80 hv ?_
              refine x_iload_n (pc := 81) B 0 dX4_isPay_81 rfl rfl ?_
              rcases xite h with ⟨hc, h⟩ | ⟨hc, h⟩
              · exact x_iret (pc := 82) B hR dX4_isPay_82 (xnar (Or.inl rfl) hc) h
              · exact absurd h (by simp)
            · refine x_if_eq_f (pc := 71) B 78 dX4_isPay_71 (by decide) hc ?_
              refine x_iconst (pc := 74) B dX4_isPay_74 xk_iconst_m1 ?_
              refine x_goto (tgt := 79) (pc := 75) B dX4_isPay_75 (by decide) ?_
              refine x_imul (pc := 79) B dX4_isPay_79 ?_
              obtain ⟨w11, hv, h⟩ := xbind h
              refine x_iast (pc := 80) B dX4_isPay_80 hv ?_
              refine x_iload_n (pc := 81) B 0 dX4_isPay_81 rfl rfl ?_
              rcases xite h with ⟨hc, h⟩ | ⟨hc, h⟩
              · exact x_iret (pc := 82) B hR dX4_isPay_82 (xnar (Or.inl rfl) hc) h
              · exact absurd h (by simp)
  · exact absurd h (by simp)
def fX4_isOrder_24 (a0 : Nat) (s0 : Int32) (w : XW) : Option (Int32 × XW) :=
  (xgR w a0 4 8).bind fun v3 =>
  (xgI w a0 4 9).bind fun v4 =>
  (xsI w v3 ((5 : Int32) * v4) s0).bind fun w5 =>
  if s0 = (97 : Int32) then
    (xgI w5 a0 4 7).bind fun v6 =>
    (xpI w5 a0 4 7 (v6 + (1 : Int32))).bind fun w7 =>
    (fX4_isFigure a0 (1 : Int32) (50 : Int32) w7).bind fun q8 =>
    if q8.1 = (0 : Int32) then
      some ((0 : Int32), q8.2)
    else
    (fX4_isSign a0 (62 : Int32) q8.2).bind fun q9 =>
    if q9.1 = (0 : Int32) then
      some ((0 : Int32), q9.2)
    else
    (fX4_isFigure a0 (2 : Int32) (50 : Int32) q9.2).bind fun q10 =>
    if q10.1 = (0 : Int32) then
      some ((0 : Int32), q10.2)
    else
    some ((1 : Int32), q10.2)
  else
  if s0 = (111 : Int32) then
    (xgI w5 a0 4 7).bind fun v11 =>
    (xpI w5 a0 4 7 (v11 + (1 : Int32))).bind fun w12 =>
    (fX4_isFigure a0 (1 : Int32) (50 : Int32) w12).bind fun q13 =>
    if q13.1 = (0 : Int32) then
      some ((0 : Int32), q13.2)
    else
    (fX4_isFigure a0 (2 : Int32) (50 : Int32) q13.2).bind fun q14 =>
    if q14.1 = (0 : Int32) then
      some ((0 : Int32), q14.2)
    else
    (fX4_isSign a0 (61 : Int32) q14.2).bind fun q15 =>
    if q15.1 = (0 : Int32) then
      some ((0 : Int32), q15.2)
    else
    (fX4_isFigure a0 (3 : Int32) (57 : Int32) q15.2).bind fun q16 =>
    if q16.1 = (0 : Int32) then
      some ((0 : Int32), q16.2)
    else
    some ((1 : Int32), q16.2)
  else
  if s0 = (115 : Int32) then
    (xgI w5 a0 4 7).bind fun v17 =>
    (xpI w5 a0 4 7 (v17 + (1 : Int32))).bind fun w18 =>
    (fX4_isFigure a0 (1 : Int32) (50 : Int32) w18).bind fun q19 =>
    if q19.1 = (0 : Int32) then
      some ((0 : Int32), q19.2)
    else
    (fX4_isSign a0 (62 : Int32) q19.2).bind fun q20 =>
    if q20.1 = (0 : Int32) then
      some ((0 : Int32), q20.2)
    else
    (fX4_isFigure a0 (2 : Int32) (50 : Int32) q20.2).bind fun q21 =>
    if q21.1 = (0 : Int32) then
      some ((0 : Int32), q21.2)
    else
    some ((1 : Int32), q21.2)
  else
  if s0 = (117 : Int32) then
    (xgI w5 a0 4 7).bind fun v22 =>
    (xpI w5 a0 4 7 (v22 + (1 : Int32))).bind fun w23 =>
    (fX4_isPay a0 w23).bind fun q24 =>
    if vp_nar .boolean q24.1 = q24.1 then some (q24.1, q24.2) else none
  else
  if s0 = (118 : Int32) then
    (xgI w5 a0 4 7).bind fun v25 =>
    (xpI w5 a0 4 7 (v25 + (1 : Int32))).bind fun w26 =>
    (fX4_isPay a0 w26).bind fun q27 =>
    if vp_nar .boolean q27.1 = q27.1 then some (q27.1, q27.2) else none
  else
  if s0 = (119 : Int32) then
    (xgI w5 a0 4 7).bind fun v28 =>
    (xpI w5 a0 4 7 (v28 + (1 : Int32))).bind fun w29 =>
    (fX4_isFigure a0 (1 : Int32) (50 : Int32) w29).bind fun q30 =>
    if q30.1 = (0 : Int32) then
      some ((0 : Int32), q30.2)
    else
    (fX4_isSign a0 (61 : Int32) q30.2).bind fun q31 =>
    if q31.1 = (0 : Int32) then
      some ((0 : Int32), q31.2)
    else
    (fX4_isFigure a0 (2 : Int32) (57 : Int32) q31.2).bind fun q32 =>
    if q32.1 = (0 : Int32) then
      some ((0 : Int32), q32.2)
    else
    some ((1 : Int32), q32.2)
  else
  some ((0 : Int32), w5)
set_option maxRecDepth 20000 in
theorem pX4_isOrder_24 {K : KX} {cx : CX} {nn : Nat} {R9 : Int32 × XW} (B : XB K cx RX4 cX4_isOrder 2 nn 4 88) (hR : XR K cx nn (some .boolean) (some (.int R9.1)) R9.2) : ∀ (a0 : Nat) (s0 : Int32) (w : XW), fX4_isOrder_24 a0 s0 w = some R9 → Wx K cx 2 nn 24 [(0, .ref a0)] [.int s0] w := by
  intro a0 s0 w h
  rw [fX4_isOrder_24] at h
  refine x_istore_n (L1 := [(1, .int s0), (0, .ref a0)]) (pc := 24) B dX4_isOrder_24 rfl (by decide) rfl ?_
  refine x_aload_n (pc := 25) B 1 dX4_isOrder_25 rfl rfl ?_
  obtain ⟨v3, hv, h⟩ := xbind h
  refine x_getR (k0 := 8) (pc := 26) B dX4_isOrder_26 rfl xi_4 (by decide) ⟨rfl, rfl, rfl⟩ xt_610 hv ?_
  refine x_iconst (pc := 29) B dX4_isOrder_29 xk_iconst_5 ?_
  refine x_aload_n (pc := 30) B 1 dX4_isOrder_30 rfl rfl ?_
  obtain ⟨v4, hv, h⟩ := xbind h
  refine x_getI (k0 := 9) (pc := 31) B dX4_isOrder_31 rfl xi_4 (by decide) ⟨rfl, rfl, rfl⟩ xt_611 hv ?_
  refine x_imul (pc := 34) B dX4_isOrder_34 ?_
  refine x_iload_n (pc := 35) B 0 dX4_isOrder_35 rfl rfl ?_
  obtain ⟨w5, hv, h⟩ := xbind h
  refine x_iast (pc := 36) B dX4_isOrder_36 hv ?_
  refine x_iload_n (pc := 37) B 0 dX4_isOrder_37 rfl rfl ?_
  rcases xite h with ⟨hc0, h⟩ | ⟨hc0, h⟩
  · refine x_look (tgt := 141) (off := 103) (pc := 38) B dX4_isOrder_38 (by decide +kernel) (by rw [hc0]; decide +kernel) (by decide) ?_
    refine x_aload_n (pc := 141) B 1 dX4_isOrder_141 rfl rfl ?_
    refine x_dup (pc := 142) B dX4_isOrder_142 rfl ?_
    obtain ⟨v6, hv, h⟩ := xbind h
    refine x_getI (k0 := 7) (pc := 143) B dX4_isOrder_143 rfl xi_4 (by decide) ⟨rfl, rfl, rfl⟩ xt_609 hv ?_
    refine x_iconst (pc := 146) B dX4_isOrder_146 xk_iconst_1 ?_
    refine x_iadd (pc := 147) B dX4_isOrder_147 ?_
    obtain ⟨w7, hv, h⟩ := xbind h
    refine x_putI (k0 := 7) (pc := 148) B dX4_isOrder_148 rfl xi_4 (by decide) ⟨rfl, rfl, rfl⟩ xt_609 tyX4_ok nmX4 rfl xpdI hv ?_
    refine x_aload_n (pc := 151) B 1 dX4_isOrder_151 rfl rfl ?_
    refine x_iconst (pc := 152) B dX4_isOrder_152 xk_iconst_1 ?_
    refine x_bipush (pc := 153) B dX4_isOrder_153 xk_bipush_50 ?_
    obtain ⟨q8, hq, h⟩ := xbind h
    refine x_callV1 (st := []) (pc := 155) B dX4_isOrder_155 (eX4_isFigure hq) xt_878 xt_58 np_X4_isFigure hy_X4_isFigure (Nat.le_of_ble_eq_true rfl) (Nat.le_of_ble_eq_true rfl) (Nat.le_of_ble_eq_true rfl) xt_877 xt_47 xt_875 rfl (iX4_isFigure hq) rfl ?_
    rcases xite h with ⟨hc, h⟩ | ⟨hc, h⟩
    · refine x_if_eq_t (tgt := 184) (pc := 158) B dX4_isOrder_158 (by decide) hc ?_
      refine x_iconst (pc := 184) B dX4_isOrder_184 xk_iconst_0 ?_
      exact x_iret (pc := 185) B hR dX4_isOrder_185 xz0 h
    · refine x_if_eq_f (pc := 158) B 184 dX4_isOrder_158 (by decide) hc ?_
      refine x_aload_n (pc := 161) B 1 dX4_isOrder_161 rfl rfl ?_
      refine x_bipush (pc := 162) B dX4_isOrder_162 xk_bipush_62 ?_
      obtain ⟨q9, hq, h⟩ := xbind h
      refine x_callV1 (st := []) (pc := 164) B dX4_isOrder_164 (eX4_isSign hq) xt_886 xt_58 np_X4_isSign hy_X4_isSign (Nat.le_of_ble_eq_true rfl) (Nat.le_of_ble_eq_true rfl) (Nat.le_of_ble_eq_true rfl) xt_885 xt_49 xt_883 rfl (iX4_isSign hq) rfl ?_
      rcases xite h with ⟨hc, h⟩ | ⟨hc, h⟩
      · refine x_if_eq_t (tgt := 184) (pc := 167) B dX4_isOrder_167 (by decide) hc ?_
        refine x_iconst (pc := 184) B dX4_isOrder_184 xk_iconst_0 ?_
        exact x_iret (pc := 185) B hR dX4_isOrder_185 xz0 h
      · refine x_if_eq_f (pc := 167) B 184 dX4_isOrder_167 (by decide) hc ?_
        refine x_aload_n (pc := 170) B 1 dX4_isOrder_170 rfl rfl ?_
        refine x_iconst (pc := 171) B dX4_isOrder_171 xk_iconst_2 ?_
        refine x_bipush (pc := 172) B dX4_isOrder_172 xk_bipush_50 ?_
        obtain ⟨q10, hq, h⟩ := xbind h
        refine x_callV1 (st := []) (pc := 174) B dX4_isOrder_174 (eX4_isFigure hq) xt_878 xt_58 np_X4_isFigure hy_X4_isFigure (Nat.le_of_ble_eq_true rfl) (Nat.le_of_ble_eq_true rfl) (Nat.le_of_ble_eq_true rfl) xt_877 xt_47 xt_875 rfl (iX4_isFigure hq) rfl ?_
        rcases xite h with ⟨hc, h⟩ | ⟨hc, h⟩
        · refine x_if_eq_t (tgt := 184) (pc := 177) B dX4_isOrder_177 (by decide) hc ?_
          refine x_iconst (pc := 184) B dX4_isOrder_184 xk_iconst_0 ?_
          exact x_iret (pc := 185) B hR dX4_isOrder_185 xz0 h
        · refine x_if_eq_f (pc := 177) B 184 dX4_isOrder_177 (by decide) hc ?_
          refine x_iconst (pc := 180) B dX4_isOrder_180 xk_iconst_1 ?_
          refine x_goto (tgt := 185) (pc := 181) B dX4_isOrder_181 (by decide) ?_
          exact x_iret (pc := 185) B hR dX4_isOrder_185 xz1 h
  · skip
    rcases xite h with ⟨hc1, h⟩ | ⟨hc1, h⟩
    · refine x_look (tgt := 201) (off := 163) (pc := 38) B dX4_isOrder_38 (by decide +kernel) (by rw [hc1]; decide +kernel) (by decide) ?_
      refine x_aload_n (pc := 201) B 1 dX4_isOrder_201 rfl rfl ?_
      refine x_dup (pc := 202) B dX4_isOrder_202 rfl ?_
      obtain ⟨v11, hv, h⟩ := xbind h
      refine x_getI (k0 := 7) (pc := 203) B dX4_isOrder_203 rfl xi_4 (by decide) ⟨rfl, rfl, rfl⟩ xt_609 hv ?_
      refine x_iconst (pc := 206) B dX4_isOrder_206 xk_iconst_1 ?_
      refine x_iadd (pc := 207) B dX4_isOrder_207 ?_
      obtain ⟨w12, hv, h⟩ := xbind h
      refine x_putI (k0 := 7) (pc := 208) B dX4_isOrder_208 rfl xi_4 (by decide) ⟨rfl, rfl, rfl⟩ xt_609 tyX4_ok nmX4 rfl xpdI hv ?_
      refine x_aload_n (pc := 211) B 1 dX4_isOrder_211 rfl rfl ?_
      refine x_iconst (pc := 212) B dX4_isOrder_212 xk_iconst_1 ?_
      refine x_bipush (pc := 213) B dX4_isOrder_213 xk_bipush_50 ?_
      obtain ⟨q13, hq, h⟩ := xbind h
      refine x_callV1 (st := []) (pc := 215) B dX4_isOrder_215 (eX4_isFigure hq) xt_878 xt_58 np_X4_isFigure hy_X4_isFigure (Nat.le_of_ble_eq_true rfl) (Nat.le_of_ble_eq_true rfl) (Nat.le_of_ble_eq_true rfl) xt_877 xt_47 xt_875 rfl (iX4_isFigure hq) rfl ?_
      rcases xite h with ⟨hc, h⟩ | ⟨hc, h⟩
      · refine x_if_eq_t (tgt := 254) (pc := 218) B dX4_isOrder_218 (by decide) hc ?_
        refine x_iconst (pc := 254) B dX4_isOrder_254 xk_iconst_0 ?_
        exact x_iret (pc := 255) B hR dX4_isOrder_255 xz0 h
      · refine x_if_eq_f (pc := 218) B 254 dX4_isOrder_218 (by decide) hc ?_
        refine x_aload_n (pc := 221) B 1 dX4_isOrder_221 rfl rfl ?_
        refine x_iconst (pc := 222) B dX4_isOrder_222 xk_iconst_2 ?_
        refine x_bipush (pc := 223) B dX4_isOrder_223 xk_bipush_50 ?_
        obtain ⟨q14, hq, h⟩ := xbind h
        refine x_callV1 (st := []) (pc := 225) B dX4_isOrder_225 (eX4_isFigure hq) xt_878 xt_58 np_X4_isFigure hy_X4_isFigure (Nat.le_of_ble_eq_true rfl) (Nat.le_of_ble_eq_true rfl) (Nat.le_of_ble_eq_true rfl) xt_877 xt_47 xt_875 rfl (iX4_isFigure hq) rfl ?_
        rcases xite h with ⟨hc, h⟩ | ⟨hc, h⟩
        · refine x_if_eq_t (tgt := 254) (pc := 228) B dX4_isOrder_228 (by decide) hc ?_
          refine x_iconst (pc := 254) B dX4_isOrder_254 xk_iconst_0 ?_
          exact x_iret (pc := 255) B hR dX4_isOrder_255 xz0 h
        · refine x_if_eq_f (pc := 228) B 254 dX4_isOrder_228 (by decide) hc ?_
          refine x_aload_n (pc := 231) B 1 dX4_isOrder_231 rfl rfl ?_
          refine x_bipush (pc := 232) B dX4_isOrder_232 xk_bipush_61 ?_
          obtain ⟨q15, hq, h⟩ := xbind h
          refine x_callV1 (st := []) (pc := 234) B dX4_isOrder_234 (eX4_isSign hq) xt_886 xt_58 np_X4_isSign hy_X4_isSign (Nat.le_of_ble_eq_true rfl) (Nat.le_of_ble_eq_true rfl) (Nat.le_of_ble_eq_true rfl) xt_885 xt_49 xt_883 rfl (iX4_isSign hq) rfl ?_
          rcases xite h with ⟨hc, h⟩ | ⟨hc, h⟩
          · refine x_if_eq_t (tgt := 254) (pc := 237) B dX4_isOrder_237 (by decide) hc ?_
            refine x_iconst (pc := 254) B dX4_isOrder_254 xk_iconst_0 ?_
            exact x_iret (pc := 255) B hR dX4_isOrder_255 xz0 h
          · refine x_if_eq_f (pc := 237) B 254 dX4_isOrder_237 (by decide) hc ?_
            refine x_aload_n (pc := 240) B 1 dX4_isOrder_240 rfl rfl ?_
            refine x_iconst (pc := 241) B dX4_isOrder_241 xk_iconst_3 ?_
            refine x_bipush (pc := 242) B dX4_isOrder_242 xk_bipush_57 ?_
            obtain ⟨q16, hq, h⟩ := xbind h
            refine x_callV1 (st := []) (pc := 244) B dX4_isOrder_244 (eX4_isFigure hq) xt_878 xt_58 np_X4_isFigure hy_X4_isFigure (Nat.le_of_ble_eq_true rfl) (Nat.le_of_ble_eq_true rfl) (Nat.le_of_ble_eq_true rfl) xt_877 xt_47 xt_875 rfl (iX4_isFigure hq) rfl ?_
            rcases xite h with ⟨hc, h⟩ | ⟨hc, h⟩
            · refine x_if_eq_t (tgt := 254) (pc := 247) B dX4_isOrder_247 (by decide) hc ?_
              refine x_iconst (pc := 254) B dX4_isOrder_254 xk_iconst_0 ?_
              exact x_iret (pc := 255) B hR dX4_isOrder_255 xz0 h
            · refine x_if_eq_f (pc := 247) B 254 dX4_isOrder_247 (by decide) hc ?_
              refine x_iconst (pc := 250) B dX4_isOrder_250 xk_iconst_1 ?_
              refine x_goto (tgt := 255) (pc := 251) B dX4_isOrder_251 (by decide) ?_
              exact x_iret (pc := 255) B hR dX4_isOrder_255 xz1 h
    · skip
      rcases xite h with ⟨hc2, h⟩ | ⟨hc2, h⟩
      · refine x_look (tgt := 141) (off := 103) (pc := 38) B dX4_isOrder_38 (by decide +kernel) (by rw [hc2]; decide +kernel) (by decide) ?_
        refine x_aload_n (pc := 141) B 1 dX4_isOrder_141 rfl rfl ?_
        refine x_dup (pc := 142) B dX4_isOrder_142 rfl ?_
        obtain ⟨v17, hv, h⟩ := xbind h
        refine x_getI (k0 := 7) (pc := 143) B dX4_isOrder_143 rfl xi_4 (by decide) ⟨rfl, rfl, rfl⟩ xt_609 hv ?_
        refine x_iconst (pc := 146) B dX4_isOrder_146 xk_iconst_1 ?_
        refine x_iadd (pc := 147) B dX4_isOrder_147 ?_
        obtain ⟨w18, hv, h⟩ := xbind h
        refine x_putI (k0 := 7) (pc := 148) B dX4_isOrder_148 rfl xi_4 (by decide) ⟨rfl, rfl, rfl⟩ xt_609 tyX4_ok nmX4 rfl xpdI hv ?_
        refine x_aload_n (pc := 151) B 1 dX4_isOrder_151 rfl rfl ?_
        refine x_iconst (pc := 152) B dX4_isOrder_152 xk_iconst_1 ?_
        refine x_bipush (pc := 153) B dX4_isOrder_153 xk_bipush_50 ?_
        obtain ⟨q19, hq, h⟩ := xbind h
        refine x_callV1 (st := []) (pc := 155) B dX4_isOrder_155 (eX4_isFigure hq) xt_878 xt_58 np_X4_isFigure hy_X4_isFigure (Nat.le_of_ble_eq_true rfl) (Nat.le_of_ble_eq_true rfl) (Nat.le_of_ble_eq_true rfl) xt_877 xt_47 xt_875 rfl (iX4_isFigure hq) rfl ?_
        rcases xite h with ⟨hc, h⟩ | ⟨hc, h⟩
        · refine x_if_eq_t (tgt := 184) (pc := 158) B dX4_isOrder_158 (by decide) hc ?_
          refine x_iconst (pc := 184) B dX4_isOrder_184 xk_iconst_0 ?_
          exact x_iret (pc := 185) B hR dX4_isOrder_185 xz0 h
        · refine x_if_eq_f (pc := 158) B 184 dX4_isOrder_158 (by decide) hc ?_
          refine x_aload_n (pc := 161) B 1 dX4_isOrder_161 rfl rfl ?_
          refine x_bipush (pc := 162) B dX4_isOrder_162 xk_bipush_62 ?_
          obtain ⟨q20, hq, h⟩ := xbind h
          refine x_callV1 (st := []) (pc := 164) B dX4_isOrder_164 (eX4_isSign hq) xt_886 xt_58 np_X4_isSign hy_X4_isSign (Nat.le_of_ble_eq_true rfl) (Nat.le_of_ble_eq_true rfl) (Nat.le_of_ble_eq_true rfl) xt_885 xt_49 xt_883 rfl (iX4_isSign hq) rfl ?_
          rcases xite h with ⟨hc, h⟩ | ⟨hc, h⟩
          · refine x_if_eq_t (tgt := 184) (pc := 167) B dX4_isOrder_167 (by decide) hc ?_
            refine x_iconst (pc := 184) B dX4_isOrder_184 xk_iconst_0 ?_
            exact x_iret (pc := 185) B hR dX4_isOrder_185 xz0 h
          · refine x_if_eq_f (pc := 167) B 184 dX4_isOrder_167 (by decide) hc ?_
            refine x_aload_n (pc := 170) B 1 dX4_isOrder_170 rfl rfl ?_
            refine x_iconst (pc := 171) B dX4_isOrder_171 xk_iconst_2 ?_
            refine x_bipush (pc := 172) B dX4_isOrder_172 xk_bipush_50 ?_
            obtain ⟨q21, hq, h⟩ := xbind h
            refine x_callV1 (st := []) (pc := 174) B dX4_isOrder_174 (eX4_isFigure hq) xt_878 xt_58 np_X4_isFigure hy_X4_isFigure (Nat.le_of_ble_eq_true rfl) (Nat.le_of_ble_eq_true rfl) (Nat.le_of_ble_eq_true rfl) xt_877 xt_47 xt_875 rfl (iX4_isFigure hq) rfl ?_
            rcases xite h with ⟨hc, h⟩ | ⟨hc, h⟩
            · refine x_if_eq_t (tgt := 184) (pc := 177) B dX4_isOrder_177 (by decide) hc ?_
              refine x_iconst (pc := 184) B dX4_isOrder_184 xk_iconst_0 ?_
              exact x_iret (pc := 185) B hR dX4_isOrder_185 xz0 h
            · refine x_if_eq_f (pc := 177) B 184 dX4_isOrder_177 (by decide) hc ?_
              refine x_iconst (pc := 180) B dX4_isOrder_180 xk_iconst_1 ?_
              refine x_goto (tgt := 185) (pc := 181) B dX4_isOrder_181 (by decide) ?_
              exact x_iret (pc := 185) B hR dX4_isOrder_185 xz1 h
      · skip
        rcases xite h with ⟨hc3, h⟩ | ⟨hc3, h⟩
        · refine x_look (tgt := 186) (off := 148) (pc := 38) B dX4_isOrder_38 (by decide +kernel) (by rw [hc3]; decide +kernel) (by decide) ?_
          refine x_aload_n (pc := 186) B 1 dX4_isOrder_186 rfl rfl ?_
          refine x_dup (pc := 187) B dX4_isOrder_187 rfl ?_
          obtain ⟨v22, hv, h⟩ := xbind h
          refine x_getI (k0 := 7) (pc := 188) B dX4_isOrder_188 rfl xi_4 (by decide) ⟨rfl, rfl, rfl⟩ xt_609 hv ?_
          refine x_iconst (pc := 191) B dX4_isOrder_191 xk_iconst_1 ?_
          refine x_iadd (pc := 192) B dX4_isOrder_192 ?_
          obtain ⟨w23, hv, h⟩ := xbind h
          refine x_putI (k0 := 7) (pc := 193) B dX4_isOrder_193 rfl xi_4 (by decide) ⟨rfl, rfl, rfl⟩ xt_609 tyX4_ok nmX4 rfl xpdI hv ?_
          refine x_aload_n (pc := 196) B 1 dX4_isOrder_196 rfl rfl ?_
          obtain ⟨q24, hq, h⟩ := xbind h
          refine x_callV1 (st := []) (pc := 197) B dX4_isOrder_197 (eX4_isPay hq) xt_890 xt_58 np_X4_isPay hy_X4_isPay (Nat.le_of_ble_eq_true rfl) (Nat.le_of_ble_eq_true rfl) (Nat.le_of_ble_eq_true rfl) xt_889 xt_50 xt_887 rfl (iX4_isPay hq) rfl ?_
          rcases xite h with ⟨hc, h⟩ | ⟨hc, h⟩
          · exact x_iret (pc := 200) B hR dX4_isOrder_200 (xnar (Or.inl rfl) hc) h
          · exact absurd h (by simp)
        · skip
          rcases xite h with ⟨hc4, h⟩ | ⟨hc4, h⟩
          · refine x_look (tgt := 186) (off := 148) (pc := 38) B dX4_isOrder_38 (by decide +kernel) (by rw [hc4]; decide +kernel) (by decide) ?_
            refine x_aload_n (pc := 186) B 1 dX4_isOrder_186 rfl rfl ?_
            refine x_dup (pc := 187) B dX4_isOrder_187 rfl ?_
            obtain ⟨v25, hv, h⟩ := xbind h
            refine x_getI (k0 := 7) (pc := 188) B dX4_isOrder_188 rfl xi_4 (by decide) ⟨rfl, rfl, rfl⟩ xt_609 hv ?_
            refine x_iconst (pc := 191) B dX4_isOrder_191 xk_iconst_1 ?_
            refine x_iadd (pc := 192) B dX4_isOrder_192 ?_
            obtain ⟨w26, hv, h⟩ := xbind h
            refine x_putI (k0 := 7) (pc := 193) B dX4_isOrder_193 rfl xi_4 (by decide) ⟨rfl, rfl, rfl⟩ xt_609 tyX4_ok nmX4 rfl xpdI hv ?_
            refine x_aload_n (pc := 196) B 1 dX4_isOrder_196 rfl rfl ?_
            obtain ⟨q27, hq, h⟩ := xbind h
            refine x_callV1 (st := []) (pc := 197) B dX4_isOrder_197 (eX4_isPay hq) xt_890 xt_58 np_X4_isPay hy_X4_isPay (Nat.le_of_ble_eq_true rfl) (Nat.le_of_ble_eq_true rfl) (Nat.le_of_ble_eq_true rfl) xt_889 xt_50 xt_887 rfl (iX4_isPay hq) rfl ?_
            rcases xite h with ⟨hc, h⟩ | ⟨hc, h⟩
            · exact x_iret (pc := 200) B hR dX4_isOrder_200 (xnar (Or.inl rfl) hc) h
            · exact absurd h (by simp)
          · skip
            rcases xite h with ⟨hc5, h⟩ | ⟨hc5, h⟩
            · refine x_look (tgt := 96) (off := 58) (pc := 38) B dX4_isOrder_38 (by decide +kernel) (by rw [hc5]; decide +kernel) (by decide) ?_
              refine x_aload_n (pc := 96) B 1 dX4_isOrder_96 rfl rfl ?_
              refine x_dup (pc := 97) B dX4_isOrder_97 rfl ?_
              obtain ⟨v28, hv, h⟩ := xbind h
              refine x_getI (k0 := 7) (pc := 98) B dX4_isOrder_98 rfl xi_4 (by decide) ⟨rfl, rfl, rfl⟩ xt_609 hv ?_
              refine x_iconst (pc := 101) B dX4_isOrder_101 xk_iconst_1 ?_
              refine x_iadd (pc := 102) B dX4_isOrder_102 ?_
              obtain ⟨w29, hv, h⟩ := xbind h
              refine x_putI (k0 := 7) (pc := 103) B dX4_isOrder_103 rfl xi_4 (by decide) ⟨rfl, rfl, rfl⟩ xt_609 tyX4_ok nmX4 rfl xpdI hv ?_
              refine x_aload_n (pc := 106) B 1 dX4_isOrder_106 rfl rfl ?_
              refine x_iconst (pc := 107) B dX4_isOrder_107 xk_iconst_1 ?_
              refine x_bipush (pc := 108) B dX4_isOrder_108 xk_bipush_50 ?_
              obtain ⟨q30, hq, h⟩ := xbind h
              refine x_callV1 (st := []) (pc := 110) B dX4_isOrder_110 (eX4_isFigure hq) xt_878 xt_58 np_X4_isFigure hy_X4_isFigure (Nat.le_of_ble_eq_true rfl) (Nat.le_of_ble_eq_true rfl) (Nat.le_of_ble_eq_true rfl) xt_877 xt_47 xt_875 rfl (iX4_isFigure hq) rfl ?_
              rcases xite h with ⟨hc, h⟩ | ⟨hc, h⟩
              · refine x_if_eq_t (tgt := 139) (pc := 113) B dX4_isOrder_113 (by decide) hc ?_
                refine x_iconst (pc := 139) B dX4_isOrder_139 xk_iconst_0 ?_
                exact x_iret (pc := 140) B hR dX4_isOrder_140 xz0 h
              · refine x_if_eq_f (pc := 113) B 139 dX4_isOrder_113 (by decide) hc ?_
                refine x_aload_n (pc := 116) B 1 dX4_isOrder_116 rfl rfl ?_
                refine x_bipush (pc := 117) B dX4_isOrder_117 xk_bipush_61 ?_
                obtain ⟨q31, hq, h⟩ := xbind h
                refine x_callV1 (st := []) (pc := 119) B dX4_isOrder_119 (eX4_isSign hq) xt_886 xt_58 np_X4_isSign hy_X4_isSign (Nat.le_of_ble_eq_true rfl) (Nat.le_of_ble_eq_true rfl) (Nat.le_of_ble_eq_true rfl) xt_885 xt_49 xt_883 rfl (iX4_isSign hq) rfl ?_
                rcases xite h with ⟨hc, h⟩ | ⟨hc, h⟩
                · refine x_if_eq_t (tgt := 139) (pc := 122) B dX4_isOrder_122 (by decide) hc ?_
                  refine x_iconst (pc := 139) B dX4_isOrder_139 xk_iconst_0 ?_
                  exact x_iret (pc := 140) B hR dX4_isOrder_140 xz0 h
                · refine x_if_eq_f (pc := 122) B 139 dX4_isOrder_122 (by decide) hc ?_
                  refine x_aload_n (pc := 125) B 1 dX4_isOrder_125 rfl rfl ?_
                  refine x_iconst (pc := 126) B dX4_isOrder_126 xk_iconst_2 ?_
                  refine x_bipush (pc := 127) B dX4_isOrder_127 xk_bipush_57 ?_
                  obtain ⟨q32, hq, h⟩ := xbind h
                  refine x_callV1 (st := []) (pc := 129) B dX4_isOrder_129 (eX4_isFigure hq) xt_878 xt_58 np_X4_isFigure hy_X4_isFigure (Nat.le_of_ble_eq_true rfl) (Nat.le_of_ble_eq_true rfl) (Nat.le_of_ble_eq_true rfl) xt_877 xt_47 xt_875 rfl (iX4_isFigure hq) rfl ?_
                  rcases xite h with ⟨hc, h⟩ | ⟨hc, h⟩
                  · refine x_if_eq_t (tgt := 139) (pc := 132) B dX4_isOrder_132 (by decide) hc ?_
                    refine x_iconst (pc := 139) B dX4_isOrder_139 xk_iconst_0 ?_
                    exact x_iret (pc := 140) B hR dX4_isOrder_140 xz0 h
                  · refine x_if_eq_f (pc := 132) B 139 dX4_isOrder_132 (by decide) hc ?_
                    refine x_iconst (pc := 135) B dX4_isOrder_135 xk_iconst_1 ?_
                    refine x_goto (tgt := 140) (pc := 136) B dX4_isOrder_136 (by decide) ?_
                    exact x_iret (pc := 140) B hR dX4_isOrder_140 xz1 h
            · skip
              refine x_look (tgt := 256) (off := 218) (pc := 38) B dX4_isOrder_38 (by decide +kernel) ?_ (by decide) ?_
              · show Op.lookupswitch.offset [(97, 103), (111, 163), (115, 103), (117, 148), (118, 148), (119, 58)] 218 _ = _
                rw [lv_osw hc0 (by decide +kernel), lv_osw hc1 (by decide +kernel), lv_osw hc2 (by decide +kernel), lv_osw hc3 (by decide +kernel), lv_osw hc4 (by decide +kernel), lv_osw hc5 (by decide +kernel)]
                rfl
              refine x_iconst (pc := 256) B dX4_isOrder_256 xk_iconst_0 ?_
              exact x_iret (pc := 257) B hR dX4_isOrder_257 xz0 h
def fX4_isOrder (a0 : Nat) (w : XW) : Option (Int32 × XW) := if xis w a0 4 = true then
  (xgI w a0 4 7).bind fun v1 =>
  (xgI w a0 4 6).bind fun v2 =>
  if v2 ≤ v1 then
    fX4_isOrder_24 a0 (0 : Int32) w
  else
  (xgR w a0 4 5).bind fun v33 =>
  (xgI w a0 4 7).bind fun v34 =>
  (xaI w v33 v34).bind fun v35 =>
  fX4_isOrder_24 a0 v35 w
  else none
theorem iX4_isOrder {a0 : Nat} {w : XW} {R9 : (Int32 × XW)} (h : fX4_isOrder a0 w = some R9) : xis w a0 4 = true := by
  unfold fX4_isOrder at h
  rcases xite h with ⟨hc, h⟩ | ⟨hc, h⟩
  · exact hc
  · exact absurd h (by simp)
theorem np_X4_isOrder : (parseMethodDescriptor yX4_isOrder.desc).map (fun d => d.parameters.length) = some 0 := by decide +kernel
theorem hy_X4_isOrder : yX4_isOrder.cls ≠ "java/lang/invoke/MethodHandle" ∧ yX4_isOrder.cls ≠ "java/lang/invoke/VarHandle" := ⟨by decide +kernel, by decide +kernel⟩
set_option maxRecDepth 20000 in
theorem eX4_isOrder {cx : CX} {a0 : Nat} {w : XW} {R9 : (Int32 × XW)} (h : fX4_isOrder a0 w = some R9) : Ct yX4_isOrder cX4_isOrder 2 (some .boolean) 4 88 cx [.ref a0] w (some (.int R9.1)) R9.2 := by
  refine Ct_of (by decide +kernel) (Nat.le_of_ble_eq_true rfl) (fun K B hR => ?_)
  rw [fX4_isOrder] at h
  show Wx K cx 2 w.length 0 [(0, .ref a0)] [] w
  rcases xite h with ⟨hc, h⟩ | ⟨hc, h⟩
  · skip
    refine x_aload_n (pc := 0) B 0 dX4_isOrder_0 rfl rfl ?_
    obtain ⟨v1, hv, h⟩ := xbind h
    refine x_getI (k0 := 7) (pc := 1) B dX4_isOrder_1 rfl xi_4 (by decide) ⟨rfl, rfl, rfl⟩ xt_609 hv ?_
    refine x_aload_n (pc := 4) B 0 dX4_isOrder_4 rfl rfl ?_
    obtain ⟨v2, hv, h⟩ := xbind h
    refine x_getI (k0 := 6) (pc := 5) B dX4_isOrder_5 rfl xi_4 (by decide) ⟨rfl, rfl, rfl⟩ xt_608 hv ?_
    rcases xite h with ⟨hc, h⟩ | ⟨hc, h⟩
    · refine x_icmp_ge_t (tgt := 23) (pc := 8) B dX4_isOrder_8 (by decide) hc ?_
      refine x_iconst (pc := 23) B dX4_isOrder_23 xk_iconst_0 ?_
      exact pX4_isOrder_24 B hR a0 (0 : Int32) w h
    · refine x_icmp_ge_f (pc := 8) B 23 dX4_isOrder_8 (by decide) hc ?_
      refine x_aload_n (pc := 11) B 0 dX4_isOrder_11 rfl rfl ?_
      obtain ⟨v33, hv, h⟩ := xbind h
      refine x_getR (k0 := 5) (pc := 12) B dX4_isOrder_12 rfl xi_4 (by decide) ⟨rfl, rfl, rfl⟩ xt_607 hv ?_
      refine x_aload_n (pc := 15) B 0 dX4_isOrder_15 rfl rfl ?_
      obtain ⟨v34, hv, h⟩ := xbind h
      refine x_getI (k0 := 7) (pc := 16) B dX4_isOrder_16 rfl xi_4 (by decide) ⟨rfl, rfl, rfl⟩ xt_609 hv ?_
      obtain ⟨v35, hv, h⟩ := xbind h
      refine x_iald (pc := 19) B dX4_isOrder_19 hv ?_
      refine x_goto (tgt := 24) (pc := 20) B dX4_isOrder_20 (by decide) ?_
      exact pX4_isOrder_24 B hR a0 v35 w h
  · exact absurd h (by simp)
def fX4_isText_12 : Nat → Nat → Int32 → XW → Option (Int32 × XW)
  | 0, _, _, _ => none
  | g + 1, a0, i1, w =>
    if i1 = (0 : Int32) then
      (xgI w a0 4 7).bind fun v3 =>
      (xgI w a0 4 6).bind fun v4 =>
      if v3 = v4 then
        some ((1 : Int32), w)
      else
      some ((0 : Int32), w)
    else
    (fX4_isOrder a0 w).bind fun q5 =>
    if q5.1 = (0 : Int32) then
      some ((0 : Int32), q5.2)
    else
    (xgI q5.2 a0 4 9).bind fun v6 =>
    (xpI q5.2 a0 4 9 (v6 + (1 : Int32))).bind fun w7 =>
    (fX4_isSign a0 (59 : Int32) w7).bind fun q8 =>
    fX4_isText_12 g a0 q8.1 q8.2
set_option maxRecDepth 20000 in
theorem pX4_isText_12 {K : KX} {cx : CX} {nn : Nat} {R9 : Int32 × XW} (B : XB K cx RX4 cX4_isText 2 nn 5 109) (hR : XR K cx nn (some .boolean) (some (.int R9.1)) R9.2) : ∀ (g : Nat) (a0 : Nat) (i1 : Int32) (w : XW), fX4_isText_12 g a0 i1 w = some R9 → Wx K cx 2 nn 12 [(0, .ref a0), (1, .int i1)] [] w := by
  intro g
  induction g with
  | zero =>
    intro a0 i1 w h
    exact absurd (show (none : Option (Int32 × XW)) = some R9 from h) (by simp)
  | succ g ih =>
    intro a0 i1 w h
    rw [fX4_isText_12] at h
    refine x_iload_n (pc := 12) B 1 dX4_isText_12 rfl rfl ?_
    rcases xite h with ⟨hc, h⟩ | ⟨hc, h⟩
    · refine x_if_eq_t (tgt := 45) (pc := 13) B dX4_isText_13 (by decide) hc ?_
      refine x_aload_n (pc := 45) B 0 dX4_isText_45 rfl rfl ?_
      obtain ⟨v3, hv, h⟩ := xbind h
      refine x_getI (k0 := 7) (pc := 46) B dX4_isText_46 rfl xi_4 (by decide) ⟨rfl, rfl, rfl⟩ xt_609 hv ?_
      refine x_aload_n (pc := 49) B 0 dX4_isText_49 rfl rfl ?_
      obtain ⟨v4, hv, h⟩ := xbind h
      refine x_getI (k0 := 6) (pc := 50) B dX4_isText_50 rfl xi_4 (by decide) ⟨rfl, rfl, rfl⟩ xt_608 hv ?_
      rcases xite h with ⟨hc, h⟩ | ⟨hc, h⟩
      · refine x_icmp_ne_f (pc := 53) B 60 dX4_isText_53 (by decide) hc ?_
        refine x_iconst (pc := 56) B dX4_isText_56 xk_iconst_1 ?_
        refine x_goto (tgt := 61) (pc := 57) B dX4_isText_57 (by decide) ?_
        exact x_iret (pc := 61) B hR dX4_isText_61 xz1 h
      · refine x_icmp_ne_t (tgt := 60) (pc := 53) B dX4_isText_53 (by decide) hc ?_
        refine x_iconst (pc := 60) B dX4_isText_60 xk_iconst_0 ?_
        exact x_iret (pc := 61) B hR dX4_isText_61 xz0 h
    · refine x_if_eq_f (pc := 13) B 45 dX4_isText_13 (by decide) hc ?_
      refine x_aload_n (pc := 16) B 0 dX4_isText_16 rfl rfl ?_
      obtain ⟨q5, hq, h⟩ := xbind h
      refine x_callV1 (st := []) (pc := 17) B dX4_isText_17 (eX4_isOrder hq) xt_874 xt_58 np_X4_isOrder hy_X4_isOrder (Nat.le_of_ble_eq_true rfl) (Nat.le_of_ble_eq_true rfl) (Nat.le_of_ble_eq_true rfl) xt_873 xt_46 xt_871 rfl (iX4_isOrder hq) rfl ?_
      rcases xite h with ⟨hc, h⟩ | ⟨hc, h⟩
      · refine x_if_ne_f (pc := 20) B 25 dX4_isText_20 (by decide) hc ?_
        refine x_iconst (pc := 23) B dX4_isText_23 xk_iconst_0 ?_
        exact x_iret (pc := 24) B hR dX4_isText_24 xz0 h
      · refine x_if_ne_t (tgt := 25) (pc := 20) B dX4_isText_20 (by decide) hc ?_
        refine x_aload_n (pc := 25) B 0 dX4_isText_25 rfl rfl ?_
        refine x_dup (pc := 26) B dX4_isText_26 rfl ?_
        obtain ⟨v6, hv, h⟩ := xbind h
        refine x_getI (k0 := 9) (pc := 27) B dX4_isText_27 rfl xi_4 (by decide) ⟨rfl, rfl, rfl⟩ xt_611 hv ?_
        refine x_iconst (pc := 30) B dX4_isText_30 xk_iconst_1 ?_
        refine x_iadd (pc := 31) B dX4_isText_31 ?_
        obtain ⟨w7, hv, h⟩ := xbind h
        refine x_putI (k0 := 9) (pc := 32) B dX4_isText_32 rfl xi_4 (by decide) ⟨rfl, rfl, rfl⟩ xt_611 tyX4_ok nmX4 rfl xpdI hv ?_
        refine x_aload_n (pc := 35) B 0 dX4_isText_35 rfl rfl ?_
        refine x_bipush (pc := 36) B dX4_isText_36 xk_bipush_59 ?_
        obtain ⟨q8, hq, h⟩ := xbind h
        refine x_callV1 (st := []) (pc := 38) B dX4_isText_38 (eX4_isSign hq) xt_886 xt_58 np_X4_isSign hy_X4_isSign (Nat.le_of_ble_eq_true rfl) (Nat.le_of_ble_eq_true rfl) (Nat.le_of_ble_eq_true rfl) xt_885 xt_49 xt_883 rfl (iX4_isSign hq) rfl ?_
        refine x_istore_n (L1 := [(1, .int q8.1), (0, .ref a0)]) (pc := 41) B dX4_isText_41 rfl (by decide) rfl ?_
        refine x_goto (tgt := 12) (pc := 42) B dX4_isText_42 (by decide) ?_
        refine x_sub (L1 := [(0, .ref a0), (1, .int q8.1)]) [1, 0] rfl ?_
        exact ih a0 q8.1 q8.2 h
def fX4_isText (a0 : Nat) (w : XW) : Option (Int32 × XW) := if xis w a0 4 = true then
  (xpI w a0 4 7 (0 : Int32)).bind fun w1 =>
  (xpI w1 a0 4 9 (0 : Int32)).bind fun w2 =>
  fX4_isText_12 1000 a0 (1 : Int32) w2
  else none
theorem iX4_isText {a0 : Nat} {w : XW} {R9 : (Int32 × XW)} (h : fX4_isText a0 w = some R9) : xis w a0 4 = true := by
  unfold fX4_isText at h
  rcases xite h with ⟨hc, h⟩ | ⟨hc, h⟩
  · exact hc
  · exact absurd h (by simp)
theorem np_X4_isText : (parseMethodDescriptor yX4_isText.desc).map (fun d => d.parameters.length) = some 0 := by decide +kernel
theorem hy_X4_isText : yX4_isText.cls ≠ "java/lang/invoke/MethodHandle" ∧ yX4_isText.cls ≠ "java/lang/invoke/VarHandle" := ⟨by decide +kernel, by decide +kernel⟩
set_option maxRecDepth 20000 in
theorem eX4_isText {cx : CX} {a0 : Nat} {w : XW} {R9 : (Int32 × XW)} (h : fX4_isText a0 w = some R9) : Ct yX4_isText cX4_isText 2 (some .boolean) 5 109 cx [.ref a0] w (some (.int R9.1)) R9.2 := by
  refine Ct_of (by decide +kernel) (Nat.le_of_ble_eq_true rfl) (fun K B hR => ?_)
  rw [fX4_isText] at h
  show Wx K cx 2 w.length 0 [(0, .ref a0)] [] w
  rcases xite h with ⟨hc, h⟩ | ⟨hc, h⟩
  · skip
    refine x_aload_n (pc := 0) B 0 dX4_isText_0 rfl rfl ?_
    refine x_iconst (pc := 1) B dX4_isText_1 xk_iconst_0 ?_
    obtain ⟨w1, hv, h⟩ := xbind h
    refine x_putI (k0 := 7) (pc := 2) B dX4_isText_2 rfl xi_4 (by decide) ⟨rfl, rfl, rfl⟩ xt_609 tyX4_ok nmX4 rfl xpdI hv ?_
    refine x_aload_n (pc := 5) B 0 dX4_isText_5 rfl rfl ?_
    refine x_iconst (pc := 6) B dX4_isText_6 xk_iconst_0 ?_
    obtain ⟨w2, hv, h⟩ := xbind h
    refine x_putI (k0 := 9) (pc := 7) B dX4_isText_7 rfl xi_4 (by decide) ⟨rfl, rfl, rfl⟩ xt_611 tyX4_ok nmX4 rfl xpdI hv ?_
    refine x_iconst (pc := 10) B dX4_isText_10 xk_iconst_1 ?_
    refine x_istore_n (L1 := [(1, .int (1 : Int32)), (0, .ref a0)]) (pc := 11) B dX4_isText_11 rfl (by decide) rfl ?_
    refine x_sub (L1 := [(0, .ref a0), (1, .int (1 : Int32))]) [1, 0] rfl ?_
    exact pX4_isText_12 B hR 1000 a0 (1 : Int32) w2 h
  · exact absurd h (by simp)
def fX4_fault (a0 : Nat) (w : XW) : Option (Int32 × XW) := if xis w a0 4 = true then
  (fX4_isText a0 w).bind fun q1 =>
  if q1.1 = (0 : Int32) then
    (xgI q1.2 a0 4 7).bind fun v2 =>
    some (v2, q1.2)
  else
  some ((-6 : Int32), q1.2)
  else none
theorem iX4_fault {a0 : Nat} {w : XW} {R9 : (Int32 × XW)} (h : fX4_fault a0 w = some R9) : xis w a0 4 = true := by
  unfold fX4_fault at h
  rcases xite h with ⟨hc, h⟩ | ⟨hc, h⟩
  · exact hc
  · exact absurd h (by simp)
theorem np_X4_fault : (parseMethodDescriptor yX4_fault.desc).map (fun d => d.parameters.length) = some 0 := by decide +kernel
theorem hy_X4_fault : yX4_fault.cls ≠ "java/lang/invoke/MethodHandle" ∧ yX4_fault.cls ≠ "java/lang/invoke/VarHandle" := ⟨by decide +kernel, by decide +kernel⟩
set_option maxRecDepth 20000 in
theorem eX4_fault {cx : CX} {a0 : Nat} {w : XW} {R9 : (Int32 × XW)} (h : fX4_fault a0 w = some R9) : Ct yX4_fault cX4_fault 1 (some .int) 6 130 cx [.ref a0] w (some (.int R9.1)) R9.2 := by
  refine Ct_of (by decide +kernel) (Nat.le_of_ble_eq_true rfl) (fun K B hR => ?_)
  rw [fX4_fault] at h
  show Wx K cx 1 w.length 0 [(0, .ref a0)] [] w
  rcases xite h with ⟨hc, h⟩ | ⟨hc, h⟩
  · skip
    refine x_aload_n (pc := 0) B 0 dX4_fault_0 rfl rfl ?_
    obtain ⟨q1, hq, h⟩ := xbind h
    refine x_callV1 (st := []) (pc := 1) B dX4_fault_1 (eX4_isText hq) xt_870 xt_58 np_X4_isText hy_X4_isText (Nat.le_of_ble_eq_true rfl) (Nat.le_of_ble_eq_true rfl) (Nat.le_of_ble_eq_true rfl) xt_869 xt_45 xt_867 rfl (iX4_isText hq) rfl ?_
    rcases xite h with ⟨hc, h⟩ | ⟨hc, h⟩
    · refine x_if_eq_t (tgt := 12) (pc := 4) B dX4_fault_4 (by decide) hc ?_
      refine x_aload_n (pc := 12) B 0 dX4_fault_12 rfl rfl ?_
      obtain ⟨v2, hv, h⟩ := xbind h
      refine x_getI (k0 := 7) (pc := 13) B dX4_fault_13 rfl xi_4 (by decide) ⟨rfl, rfl, rfl⟩ xt_609 hv ?_
      exact x_iret (pc := 16) B hR dX4_fault_16 (xzI _) h
    · refine x_if_eq_f (pc := 4) B 12 dX4_fault_4 (by decide) hc ?_
      refine x_bipush (pc := 7) B dX4_fault_7 xk_bipush_m6 ?_
      refine x_goto (tgt := 16) (pc := 9) B dX4_fault_9 (by decide) ?_
      exact x_iret (pc := 16) B hR dX4_fault_16 (xzI _) h
  · exact absurd h (by simp)
def fX4_does_214 (i3 : Int32) (i4 : Int32) (i5 : Int32) (i6 : Int32) (s0 : Int32) (s1 : Nat) (w : XW) : Option (Int32 × XW) :=
  (fX4_place s0 i3 i4 i5 w).bind fun q16 =>
  (fX4_changes s1 q16.1 i6 q16.2).bind fun q17 =>
  some ((1 : Int32), q17.2)
set_option maxRecDepth 20000 in
theorem pX4_does_214 {K : KX} {cx : CX} {nn : Nat} {R9 : Int32 × XW} (B : XB K cx RX4 cX4_does 8 nn 4 88) (hR : XR K cx nn (some .boolean) (some (.int R9.1)) R9.2) : ∀ (i3 : Int32) (i4 : Int32) (i5 : Int32) (i6 : Int32) (s0 : Int32) (s1 : Nat) (w : XW), fX4_does_214 i3 i4 i5 i6 s0 s1 w = some R9 → Wx K cx 8 nn 214 [(3, .int i3), (4, .int i4), (5, .int i5), (6, .int i6)] [.int s0, .ref s1] w := by
  intro i3 i4 i5 i6 s0 s1 w h
  rw [fX4_does_214] at h
  refine x_iload_n (pc := 214) B 0 dX4_does_214 rfl rfl ?_
  refine x_iload (pc := 215) B 1 dX4_does_215 rfl ?_
  refine x_iload (pc := 217) B 2 dX4_does_217 rfl ?_
  obtain ⟨q16, hq, h⟩ := xbind h
  refine x_callS1 (st := [.ref s1]) (pc := 219) B dX4_does_219 (eX4_place hq) xt_676 xt_58 np_X4_place hy_X4_place (Nat.le_of_ble_eq_true rfl) (Nat.le_of_ble_eq_true rfl) (Nat.le_of_ble_eq_true rfl) xt_675 xt_674 rfl ?_
  refine x_iload (pc := 222) B 3 dX4_does_222 rfl ?_
  obtain ⟨q17, hq, h⟩ := xbind h
  refine x_callV1 (st := []) (pc := 224) B dX4_does_224 (eX4_changes hq) xt_666 xt_58 np_X4_changes hy_X4_changes (Nat.le_of_ble_eq_true rfl) (Nat.le_of_ble_eq_true rfl) (Nat.le_of_ble_eq_true rfl) xt_665 xt_17 xt_663 rfl (iX4_changes hq) rfl ?_
  refine x_pop (pc := 227) B dX4_does_227 rfl ?_
  refine x_iconst (pc := 228) B dX4_does_228 xk_iconst_1 ?_
  exact x_iret (pc := 229) B hR dX4_does_229 xz1 h
def fX4_does_92 (a0 : Nat) (i2 : Int32) (i3 : Int32) (i4 : Int32) (i5 : Int32) (i6 : Int32) (s0 : Int32) (w : XW) : Option (Int32 × XW) :=
  if s0 = (0 : Int32) then
    if i2 = (97 : Int32) then
      (fX4_changes a0 ((69 : Int32) + i3) i4 w).bind fun q12 =>
      some ((1 : Int32), q12.2)
    else
    if i2 = (111 : Int32) then
      (fX4_changes a0 (((57 : Int32) + ((3 : Int32) * i3)) + i4) i5 w).bind fun q13 =>
      some ((1 : Int32), q13.2)
    else
    if i2 = (115 : Int32) then
      (fX4_changes a0 ((66 : Int32) + i3) i4 w).bind fun q14 =>
      some ((1 : Int32), q14.2)
    else
    if i2 = (119 : Int32) then
      (fX4_changes a0 i3 i4 w).bind fun q15 =>
      some ((1 : Int32), q15.2)
    else
    if i2 = (117 : Int32) then
      fX4_does_214 i3 i4 i5 i6 (0 : Int32) a0 w
    else
    fX4_does_214 i3 i4 i5 i6 (1 : Int32) a0 w
  else
  some ((0 : Int32), w)
set_option maxRecDepth 20000 in
theorem pX4_does_92 {K : KX} {cx : CX} {nn : Nat} {R9 : Int32 × XW} (B : XB K cx RX4 cX4_does 8 nn 4 88) (hR : XR K cx nn (some .boolean) (some (.int R9.1)) R9.2) : ∀ (a0 : Nat) (i2 : Int32) (i3 : Int32) (i4 : Int32) (i5 : Int32) (i6 : Int32) (s0 : Int32) (w : XW), fX4_does_92 a0 i2 i3 i4 i5 i6 s0 w = some R9 → Wx K cx 8 nn 92 [(0, .ref a0), (2, .int i2), (3, .int i3), (4, .int i4), (5, .int i5), (6, .int i6)] [.int s0] w := by
  intro a0 i2 i3 i4 i5 i6 s0 w h
  rw [fX4_does_92] at h
  refine x_istore (L1 := [(7, .int s0), (0, .ref a0), (2, .int i2), (3, .int i3), (4, .int i4), (5, .int i5), (6, .int i6)]) (pc := 92) B dX4_does_92 (by decide) rfl ?_
  refine x_iload (pc := 94) B 0 dX4_does_94 rfl ?_
  rcases xite h with ⟨hc, h⟩ | ⟨hc, h⟩
  · refine x_if_eq_t (tgt := 101) (pc := 96) B dX4_does_96 (by decide) hc ?_
    refine x_iload_n (pc := 101) B 2 dX4_does_101 rfl rfl ?_
    rcases xite h with ⟨hc0, h⟩ | ⟨hc0, h⟩
    · refine x_look (tgt := 169) (off := 67) (pc := 102) B dX4_does_102 (by decide +kernel) (by rw [hc0]; decide +kernel) (by decide) ?_
      refine x_aload_n (pc := 169) B 1 dX4_does_169 rfl rfl ?_
      refine x_bipush (pc := 170) B dX4_does_170 xk_bipush_69 ?_
      refine x_iload_n (pc := 172) B 3 dX4_does_172 rfl rfl ?_
      refine x_iadd (pc := 173) B dX4_does_173 ?_
      refine x_iload (pc := 174) B 4 dX4_does_174 rfl ?_
      obtain ⟨q12, hq, h⟩ := xbind h
      refine x_callV1 (st := []) (pc := 176) B dX4_does_176 (eX4_changes hq) xt_666 xt_58 np_X4_changes hy_X4_changes (Nat.le_of_ble_eq_true rfl) (Nat.le_of_ble_eq_true rfl) (Nat.le_of_ble_eq_true rfl) xt_665 xt_17 xt_663 rfl (iX4_changes hq) rfl ?_
      refine x_pop (pc := 179) B dX4_does_179 rfl ?_
      refine x_goto (tgt := 228) (pc := 180) B dX4_does_180 (by decide) ?_
      refine x_iconst (pc := 228) B dX4_does_228 xk_iconst_1 ?_
      exact x_iret (pc := 229) B hR dX4_does_229 xz1 h
    · skip
      rcases xite h with ⟨hc1, h⟩ | ⟨hc1, h⟩
      · refine x_look (tgt := 183) (off := 81) (pc := 102) B dX4_does_102 (by decide +kernel) (by rw [hc1]; decide +kernel) (by decide) ?_
        refine x_aload_n (pc := 183) B 1 dX4_does_183 rfl rfl ?_
        refine x_bipush (pc := 184) B dX4_does_184 xk_bipush_57 ?_
        refine x_iconst (pc := 186) B dX4_does_186 xk_iconst_3 ?_
        refine x_iload_n (pc := 187) B 3 dX4_does_187 rfl rfl ?_
        refine x_imul (pc := 188) B dX4_does_188 ?_
        refine x_iadd (pc := 189) B dX4_does_189 ?_
        refine x_iload (pc := 190) B 4 dX4_does_190 rfl ?_
        refine x_iadd (pc := 192) B dX4_does_192 ?_
        refine x_iload (pc := 193) B 5 dX4_does_193 rfl ?_
        obtain ⟨q13, hq, h⟩ := xbind h
        refine x_callV1 (st := []) (pc := 195) B dX4_does_195 (eX4_changes hq) xt_666 xt_58 np_X4_changes hy_X4_changes (Nat.le_of_ble_eq_true rfl) (Nat.le_of_ble_eq_true rfl) (Nat.le_of_ble_eq_true rfl) xt_665 xt_17 xt_663 rfl (iX4_changes hq) rfl ?_
        refine x_pop (pc := 198) B dX4_does_198 rfl ?_
        refine x_goto (tgt := 228) (pc := 199) B dX4_does_199 (by decide) ?_
        refine x_iconst (pc := 228) B dX4_does_228 xk_iconst_1 ?_
        exact x_iret (pc := 229) B hR dX4_does_229 xz1 h
      · skip
        rcases xite h with ⟨hc2, h⟩ | ⟨hc2, h⟩
        · refine x_look (tgt := 155) (off := 53) (pc := 102) B dX4_does_102 (by decide +kernel) (by rw [hc2]; decide +kernel) (by decide) ?_
          refine x_aload_n (pc := 155) B 1 dX4_does_155 rfl rfl ?_
          refine x_bipush (pc := 156) B dX4_does_156 xk_bipush_66 ?_
          refine x_iload_n (pc := 158) B 3 dX4_does_158 rfl rfl ?_
          refine x_iadd (pc := 159) B dX4_does_159 ?_
          refine x_iload (pc := 160) B 4 dX4_does_160 rfl ?_
          obtain ⟨q14, hq, h⟩ := xbind h
          refine x_callV1 (st := []) (pc := 162) B dX4_does_162 (eX4_changes hq) xt_666 xt_58 np_X4_changes hy_X4_changes (Nat.le_of_ble_eq_true rfl) (Nat.le_of_ble_eq_true rfl) (Nat.le_of_ble_eq_true rfl) xt_665 xt_17 xt_663 rfl (iX4_changes hq) rfl ?_
          refine x_pop (pc := 165) B dX4_does_165 rfl ?_
          refine x_goto (tgt := 228) (pc := 166) B dX4_does_166 (by decide) ?_
          refine x_iconst (pc := 228) B dX4_does_228 xk_iconst_1 ?_
          exact x_iret (pc := 229) B hR dX4_does_229 xz1 h
        · skip
          rcases xite h with ⟨hc3, h⟩ | ⟨hc3, h⟩
          · refine x_look (tgt := 144) (off := 42) (pc := 102) B dX4_does_102 (by decide +kernel) (by rw [hc3]; decide +kernel) (by decide) ?_
            refine x_aload_n (pc := 144) B 1 dX4_does_144 rfl rfl ?_
            refine x_iload_n (pc := 145) B 3 dX4_does_145 rfl rfl ?_
            refine x_iload (pc := 146) B 4 dX4_does_146 rfl ?_
            obtain ⟨q15, hq, h⟩ := xbind h
            refine x_callV1 (st := []) (pc := 148) B dX4_does_148 (eX4_changes hq) xt_666 xt_58 np_X4_changes hy_X4_changes (Nat.le_of_ble_eq_true rfl) (Nat.le_of_ble_eq_true rfl) (Nat.le_of_ble_eq_true rfl) xt_665 xt_17 xt_663 rfl (iX4_changes hq) rfl ?_
            refine x_pop (pc := 151) B dX4_does_151 rfl ?_
            refine x_goto (tgt := 228) (pc := 152) B dX4_does_152 (by decide) ?_
            refine x_iconst (pc := 228) B dX4_does_228 xk_iconst_1 ?_
            exact x_iret (pc := 229) B hR dX4_does_229 xz1 h
          · skip
            refine x_look (tgt := 202) (off := 100) (pc := 102) B dX4_does_102 (by decide +kernel) ?_ (by decide) ?_
            · show Op.lookupswitch.offset [(97, 67), (111, 81), (115, 53), (119, 42)] 100 _ = _
              rw [lv_osw hc0 (by decide +kernel), lv_osw hc1 (by decide +kernel), lv_osw hc2 (by decide +kernel), lv_osw hc3 (by decide +kernel)]
              rfl
            refine x_aload_n (pc := 202) B 1 dX4_does_202 rfl rfl ?_
            refine x_iload_n (pc := 203) B 2 dX4_does_203 rfl rfl ?_
            refine x_bipush (pc := 204) B dX4_does_204 xk_bipush_117 ?_
            rcases xite h with ⟨hc, h⟩ | ⟨hc, h⟩
            · refine x_icmp_ne_f (pc := 206) B 213 dX4_does_206 (by decide) hc ?_
              refine x_iconst (pc := 209) B dX4_does_209 xk_iconst_0 ?_
              refine x_goto (tgt := 214) (pc := 210) B dX4_does_210 (by decide) ?_
              refine x_sub (L1 := [(3, .int i3), (4, .int i4), (5, .int i5), (6, .int i6)]) [3, 4, 5, 6] rfl ?_
              exact pX4_does_214 B hR i3 i4 i5 i6 (0 : Int32) a0 w h
            · refine x_icmp_ne_t (tgt := 213) (pc := 206) B dX4_does_206 (by decide) hc ?_
              refine x_iconst (pc := 213) B dX4_does_213 xk_iconst_1 ?_
              refine x_sub (L1 := [(3, .int i3), (4, .int i4), (5, .int i5), (6, .int i6)]) [3, 4, 5, 6] rfl ?_
              exact pX4_does_214 B hR i3 i4 i5 i6 (1 : Int32) a0 w h
  · refine x_if_eq_f (pc := 96) B 101 dX4_does_96 (by decide) hc ?_
    refine x_iconst (pc := 99) B dX4_does_99 xk_iconst_0 ?_
    exact x_iret (pc := 100) B hR dX4_does_100 xz0 h
def fX4_does (a0 : Nat) (i1 : Int32) (w : XW) : Option (Int32 × XW) := if xis w a0 4 = true then
  (xgR w a0 4 8).bind fun v1 =>
  (xaI w v1 ((5 : Int32) * i1)).bind fun v2 =>
  (xgR w a0 4 8).bind fun v3 =>
  (xaI w v3 (((5 : Int32) * i1) + (1 : Int32))).bind fun v4 =>
  (xgR w a0 4 8).bind fun v5 =>
  (xaI w v5 (((5 : Int32) * i1) + (2 : Int32))).bind fun v6 =>
  (xgR w a0 4 8).bind fun v7 =>
  (xaI w v7 (((5 : Int32) * i1) + (3 : Int32))).bind fun v8 =>
  (xgR w a0 4 8).bind fun v9 =>
  (xaI w v9 (((5 : Int32) * i1) + (4 : Int32))).bind fun v10 =>
  if v2 = (119 : Int32) then
    (fX4_mayWeigh a0 (0 : Int32) v4 v6 w).bind fun q11 =>
    fX4_does_92 a0 v2 v4 v6 v8 v10 q11.1 q11.2
  else
  if v2 = (111 : Int32) then
    (fX4_mayBelieve a0 v4 v6 v8 w).bind fun q18 =>
    fX4_does_92 a0 v2 v4 v6 v8 v10 q18.1 q18.2
  else
  fX4_does_92 a0 v2 v4 v6 v8 v10 (0 : Int32) w
  else none
theorem iX4_does {a0 : Nat} {i1 : Int32} {w : XW} {R9 : (Int32 × XW)} (h : fX4_does a0 i1 w = some R9) : xis w a0 4 = true := by
  unfold fX4_does at h
  rcases xite h with ⟨hc, h⟩ | ⟨hc, h⟩
  · exact hc
  · exact absurd h (by simp)
theorem np_X4_does : (parseMethodDescriptor yX4_does.desc).map (fun d => d.parameters.length) = some 1 := by decide +kernel
theorem hy_X4_does : yX4_does.cls ≠ "java/lang/invoke/MethodHandle" ∧ yX4_does.cls ≠ "java/lang/invoke/VarHandle" := ⟨by decide +kernel, by decide +kernel⟩
set_option maxRecDepth 20000 in
theorem eX4_does {cx : CX} {a0 : Nat} {i1 : Int32} {w : XW} {R9 : (Int32 × XW)} (h : fX4_does a0 i1 w = some R9) : Ct yX4_does cX4_does 8 (some .boolean) 4 88 cx [.ref a0, .int i1] w (some (.int R9.1)) R9.2 := by
  refine Ct_of (by decide +kernel) (Nat.le_of_ble_eq_true rfl) (fun K B hR => ?_)
  rw [fX4_does] at h
  show Wx K cx 8 w.length 0 [(0, .ref a0), (1, .int i1)] [] w
  rcases xite h with ⟨hc, h⟩ | ⟨hc, h⟩
  · skip
    refine x_aload_n (pc := 0) B 0 dX4_does_0 rfl rfl ?_
    obtain ⟨v1, hv, h⟩ := xbind h
    refine x_getR (k0 := 8) (pc := 1) B dX4_does_1 rfl xi_4 (by decide) ⟨rfl, rfl, rfl⟩ xt_610 hv ?_
    refine x_iconst (pc := 4) B dX4_does_4 xk_iconst_5 ?_
    refine x_iload_n (pc := 5) B 1 dX4_does_5 rfl rfl ?_
    refine x_imul (pc := 6) B dX4_does_6 ?_
    obtain ⟨v2, hv, h⟩ := xbind h
    refine x_iald (pc := 7) B dX4_does_7 hv ?_
    refine x_istore_n (L1 := [(2, .int v2), (0, .ref a0), (1, .int i1)]) (pc := 8) B dX4_does_8 rfl (by decide) rfl ?_
    refine x_aload_n (pc := 9) B 1 dX4_does_9 rfl rfl ?_
    obtain ⟨v3, hv, h⟩ := xbind h
    refine x_getR (k0 := 8) (pc := 10) B dX4_does_10 rfl xi_4 (by decide) ⟨rfl, rfl, rfl⟩ xt_610 hv ?_
    refine x_iconst (pc := 13) B dX4_does_13 xk_iconst_5 ?_
    refine x_iload_n (pc := 14) B 2 dX4_does_14 rfl rfl ?_
    refine x_imul (pc := 15) B dX4_does_15 ?_
    refine x_iconst (pc := 16) B dX4_does_16 xk_iconst_1 ?_
    refine x_iadd (pc := 17) B dX4_does_17 ?_
    obtain ⟨v4, hv, h⟩ := xbind h
    refine x_iald (pc := 18) B dX4_does_18 hv ?_
    refine x_istore_n (L1 := [(3, .int v4), (2, .int v2), (0, .ref a0), (1, .int i1)]) (pc := 19) B dX4_does_19 rfl (by decide) rfl ?_
    refine x_aload_n (pc := 20) B 2 dX4_does_20 rfl rfl ?_
    obtain ⟨v5, hv, h⟩ := xbind h
    refine x_getR (k0 := 8) (pc := 21) B dX4_does_21 rfl xi_4 (by decide) ⟨rfl, rfl, rfl⟩ xt_610 hv ?_
    refine x_iconst (pc := 24) B dX4_does_24 xk_iconst_5 ?_
    refine x_iload_n (pc := 25) B 3 dX4_does_25 rfl rfl ?_
    refine x_imul (pc := 26) B dX4_does_26 ?_
    refine x_iconst (pc := 27) B dX4_does_27 xk_iconst_2 ?_
    refine x_iadd (pc := 28) B dX4_does_28 ?_
    obtain ⟨v6, hv, h⟩ := xbind h
    refine x_iald (pc := 29) B dX4_does_29 hv ?_
    refine x_istore (L1 := [(4, .int v6), (3, .int v4), (2, .int v2), (0, .ref a0), (1, .int i1)]) (pc := 30) B dX4_does_30 (by decide) rfl ?_
    refine x_aload_n (pc := 32) B 3 dX4_does_32 rfl rfl ?_
    obtain ⟨v7, hv, h⟩ := xbind h
    refine x_getR (k0 := 8) (pc := 33) B dX4_does_33 rfl xi_4 (by decide) ⟨rfl, rfl, rfl⟩ xt_610 hv ?_
    refine x_iconst (pc := 36) B dX4_does_36 xk_iconst_5 ?_
    refine x_iload_n (pc := 37) B 4 dX4_does_37 rfl rfl ?_
    refine x_imul (pc := 38) B dX4_does_38 ?_
    refine x_iconst (pc := 39) B dX4_does_39 xk_iconst_3 ?_
    refine x_iadd (pc := 40) B dX4_does_40 ?_
    obtain ⟨v8, hv, h⟩ := xbind h
    refine x_iald (pc := 41) B dX4_does_41 hv ?_
    refine x_istore (L1 := [(5, .int v8), (4, .int v6), (3, .int v4), (2, .int v2), (0, .ref a0), (1, .int i1)]) (pc := 42) B dX4_does_42 (by decide) rfl ?_
    refine x_aload_n (pc := 44) B 4 dX4_does_44 rfl rfl ?_
    obtain ⟨v9, hv, h⟩ := xbind h
    refine x_getR (k0 := 8) (pc := 45) B dX4_does_45 rfl xi_4 (by decide) ⟨rfl, rfl, rfl⟩ xt_610 hv ?_
    refine x_iconst (pc := 48) B dX4_does_48 xk_iconst_5 ?_
    refine x_iload_n (pc := 49) B 5 dX4_does_49 rfl rfl ?_
    refine x_imul (pc := 50) B dX4_does_50 ?_
    refine x_iconst (pc := 51) B dX4_does_51 xk_iconst_4 ?_
    refine x_iadd (pc := 52) B dX4_does_52 ?_
    obtain ⟨v10, hv, h⟩ := xbind h
    refine x_iald (pc := 53) B dX4_does_53 hv ?_
    refine x_istore (L1 := [(6, .int v10), (5, .int v8), (4, .int v6), (3, .int v4), (2, .int v2), (0, .ref a0), (1, .int i1)]) (pc := 54) B dX4_does_54 (by decide) rfl ?_
    refine x_iload_n (pc := 56) B 4 dX4_does_56 rfl rfl ?_
    refine x_bipush (pc := 57) B dX4_does_57 xk_bipush_119 ?_
    rcases xite h with ⟨hc, h⟩ | ⟨hc, h⟩
    · refine x_icmp_ne_f (pc := 59) B 73 dX4_does_59 (by decide) hc ?_
      refine x_aload_n (pc := 62) B 5 dX4_does_62 rfl rfl ?_
      refine x_iconst (pc := 63) B dX4_does_63 xk_iconst_0 ?_
      refine x_iload_n (pc := 64) B 3 dX4_does_64 rfl rfl ?_
      refine x_iload (pc := 65) B 2 dX4_does_65 rfl ?_
      obtain ⟨q11, hq, h⟩ := xbind h
      refine x_callV1 (st := []) (pc := 67) B dX4_does_67 (eX4_mayWeigh hq) xt_659 xt_58 np_X4_mayWeigh hy_X4_mayWeigh (Nat.le_of_ble_eq_true rfl) (Nat.le_of_ble_eq_true rfl) (Nat.le_of_ble_eq_true rfl) xt_658 xt_16 xt_656 rfl (iX4_mayWeigh hq) rfl ?_
      refine x_goto (tgt := 92) (pc := 70) B dX4_does_70 (by decide) ?_
      refine x_sub (L1 := [(0, .ref a0), (2, .int v2), (3, .int v4), (4, .int v6), (5, .int v8), (6, .int v10)]) [5, 4, 3, 2, 1, 0] rfl ?_
      exact pX4_does_92 B hR a0 v2 v4 v6 v8 v10 q11.1 q11.2 h
    · refine x_icmp_ne_t (tgt := 73) (pc := 59) B dX4_does_59 (by decide) hc ?_
      refine x_iload_n (pc := 73) B 4 dX4_does_73 rfl rfl ?_
      refine x_bipush (pc := 74) B dX4_does_74 xk_bipush_111 ?_
      rcases xite h with ⟨hc, h⟩ | ⟨hc, h⟩
      · refine x_icmp_ne_f (pc := 76) B 91 dX4_does_76 (by decide) hc ?_
        refine x_aload_n (pc := 79) B 5 dX4_does_79 rfl rfl ?_
        refine x_iload_n (pc := 80) B 3 dX4_does_80 rfl rfl ?_
        refine x_iload (pc := 81) B 2 dX4_does_81 rfl ?_
        refine x_iload (pc := 83) B 1 dX4_does_83 rfl ?_
        obtain ⟨q18, hq, h⟩ := xbind h
        refine x_callV1 (st := []) (pc := 85) B dX4_does_85 (eX4_mayBelieve hq) xt_684 xt_58 np_X4_mayBelieve hy_X4_mayBelieve (Nat.le_of_ble_eq_true rfl) (Nat.le_of_ble_eq_true rfl) (Nat.le_of_ble_eq_true rfl) xt_683 xt_18 xt_681 rfl (iX4_mayBelieve hq) rfl ?_
        refine x_goto (tgt := 92) (pc := 88) B dX4_does_88 (by decide) ?_
        refine x_sub (L1 := [(0, .ref a0), (2, .int v2), (3, .int v4), (4, .int v6), (5, .int v8), (6, .int v10)]) [5, 4, 3, 2, 1, 0] rfl ?_
        exact pX4_does_92 B hR a0 v2 v4 v6 v8 v10 q18.1 q18.2 h
      · refine x_icmp_ne_t (tgt := 91) (pc := 76) B dX4_does_76 (by decide) hc ?_
        refine x_iconst (pc := 91) B dX4_does_91 xk_iconst_0 ?_
        refine x_sub (L1 := [(0, .ref a0), (2, .int v2), (3, .int v4), (4, .int v6), (5, .int v8), (6, .int v10)]) [5, 4, 3, 2, 1, 0] rfl ?_
        exact pX4_does_92 B hR a0 v2 v4 v6 v8 v10 (0 : Int32) w h
  · exact absurd h (by simp)
def fX4_carryOut_21 : Nat → Nat → Int32 → XW → Option (Int32 × XW)
  | 0, _, _, _ => none
  | g + 1, a0, i1, w =>
    (xgI w a0 4 9).bind fun v4 =>
    if v4 ≤ i1 then
      some (i1, w)
    else
    (fX4_does a0 i1 w).bind fun q5 =>
    if q5.1 = (0 : Int32) then
      some (i1, q5.2)
    else
    fX4_carryOut_21 g a0 (i1 + (1 : Int32)) q5.2
set_option maxRecDepth 20000 in
theorem pX4_carryOut_21 {K : KX} {cx : CX} {nn : Nat} {R9 : Int32 × XW} (B : XB K cx RX4 cX4_carryOut 2 nn 6 130) (hR : XR K cx nn (some .int) (some (.int R9.1)) R9.2) : ∀ (g : Nat) (a0 : Nat) (i1 : Int32) (w : XW), fX4_carryOut_21 g a0 i1 w = some R9 → Wx K cx 2 nn 21 [(0, .ref a0), (1, .int i1)] [] w := by
  intro g
  induction g with
  | zero =>
    intro a0 i1 w h
    exact absurd (show (none : Option (Int32 × XW)) = some R9 from h) (by simp)
  | succ g ih =>
    intro a0 i1 w h
    rw [fX4_carryOut_21] at h
    refine x_iload_n (pc := 21) B 1 dX4_carryOut_21 rfl rfl ?_
    refine x_aload_n (pc := 22) B 0 dX4_carryOut_22 rfl rfl ?_
    obtain ⟨v4, hv, h⟩ := xbind h
    refine x_getI (k0 := 9) (pc := 23) B dX4_carryOut_23 rfl xi_4 (by decide) ⟨rfl, rfl, rfl⟩ xt_611 hv ?_
    rcases xite h with ⟨hc, h⟩ | ⟨hc, h⟩
    · refine x_icmp_ge_t (tgt := 43) (pc := 26) B dX4_carryOut_26 (by decide) hc ?_
      refine x_iload_n (pc := 43) B 1 dX4_carryOut_43 rfl rfl ?_
      exact x_iret (pc := 44) B hR dX4_carryOut_44 (xzI _) h
    · refine x_icmp_ge_f (pc := 26) B 43 dX4_carryOut_26 (by decide) hc ?_
      refine x_aload_n (pc := 29) B 0 dX4_carryOut_29 rfl rfl ?_
      refine x_iload_n (pc := 30) B 1 dX4_carryOut_30 rfl rfl ?_
      obtain ⟨q5, hq, h⟩ := xbind h
      refine x_callV1 (st := []) (pc := 31) B dX4_carryOut_31 (eX4_does hq) xt_898 xt_58 np_X4_does hy_X4_does (Nat.le_of_ble_eq_true rfl) (Nat.le_of_ble_eq_true rfl) (Nat.le_of_ble_eq_true rfl) xt_897 xt_51 xt_895 rfl (iX4_does hq) rfl ?_
      rcases xite h with ⟨hc, h⟩ | ⟨hc, h⟩
      · refine x_if_eq_t (tgt := 43) (pc := 34) B dX4_carryOut_34 (by decide) hc ?_
        refine x_iload_n (pc := 43) B 1 dX4_carryOut_43 rfl rfl ?_
        exact x_iret (pc := 44) B hR dX4_carryOut_44 (xzI _) h
      · refine x_if_eq_f (pc := 34) B 43 dX4_carryOut_34 (by decide) hc ?_
        refine x_iinc (L1 := [(1, .int (i1 + (1 : Int32))), (0, .ref a0)]) (pc := 37) B 1 dX4_carryOut_37 rfl (congrArg _ xk_iconst_1) (by decide) rfl ?_
        refine x_goto (tgt := 21) (pc := 40) B dX4_carryOut_40 (by decide) ?_
        refine x_sub (L1 := [(0, .ref a0), (1, .int (i1 + (1 : Int32)))]) [1, 0] rfl ?_
        exact ih a0 (i1 + (1 : Int32)) q5.2 h
def fX4_carryOut (a0 : Nat) (w : XW) : Option (Int32 × XW) := if xis w a0 4 = true then
  (fX4_isText a0 w).bind fun q1 =>
  if q1.1 = (0 : Int32) then
    some ((-3 : Int32), q1.2)
  else
  (fX4_records a0 q1.2).bind fun q2 =>
  (xpI q2 a0 4 6 (0 : Int32)).bind fun w3 =>
  fX4_carryOut_21 1000 a0 (0 : Int32) w3
  else none
theorem iX4_carryOut {a0 : Nat} {w : XW} {R9 : (Int32 × XW)} (h : fX4_carryOut a0 w = some R9) : xis w a0 4 = true := by
  unfold fX4_carryOut at h
  rcases xite h with ⟨hc, h⟩ | ⟨hc, h⟩
  · exact hc
  · exact absurd h (by simp)
theorem np_X4_carryOut : (parseMethodDescriptor yX4_carryOut.desc).map (fun d => d.parameters.length) = some 0 := by decide +kernel
theorem hy_X4_carryOut : yX4_carryOut.cls ≠ "java/lang/invoke/MethodHandle" ∧ yX4_carryOut.cls ≠ "java/lang/invoke/VarHandle" := ⟨by decide +kernel, by decide +kernel⟩
set_option maxRecDepth 20000 in
theorem eX4_carryOut {cx : CX} {a0 : Nat} {w : XW} {R9 : (Int32 × XW)} (h : fX4_carryOut a0 w = some R9) : Ct yX4_carryOut cX4_carryOut 2 (some .int) 6 130 cx [.ref a0] w (some (.int R9.1)) R9.2 := by
  refine Ct_of (by decide +kernel) (Nat.le_of_ble_eq_true rfl) (fun K B hR => ?_)
  rw [fX4_carryOut] at h
  show Wx K cx 2 w.length 0 [(0, .ref a0)] [] w
  rcases xite h with ⟨hc, h⟩ | ⟨hc, h⟩
  · skip
    refine x_aload_n (pc := 0) B 0 dX4_carryOut_0 rfl rfl ?_
    obtain ⟨q1, hq, h⟩ := xbind h
    refine x_callV1 (st := []) (pc := 1) B dX4_carryOut_1 (eX4_isText hq) xt_870 xt_58 np_X4_isText hy_X4_isText (Nat.le_of_ble_eq_true rfl) (Nat.le_of_ble_eq_true rfl) (Nat.le_of_ble_eq_true rfl) xt_869 xt_45 xt_867 rfl (iX4_isText hq) rfl ?_
    rcases xite h with ⟨hc, h⟩ | ⟨hc, h⟩
    · refine x_if_ne_f (pc := 4) B 10 dX4_carryOut_4 (by decide) hc ?_
      refine x_bipush (pc := 7) B dX4_carryOut_7 xk_bipush_m3 ?_
      exact x_iret (pc := 9) B hR dX4_carryOut_9 (xzI _) h
    · refine x_if_ne_t (tgt := 10) (pc := 4) B dX4_carryOut_4 (by decide) hc ?_
      refine x_aload_n (pc := 10) B 0 dX4_carryOut_10 rfl rfl ?_
      obtain ⟨q2, hq, h⟩ := xbind h
      refine x_callV0 (st := []) (pc := 11) B dX4_carryOut_11 (eX4_records hq) xt_651 xt_58 np_X4_records hy_X4_records (Nat.le_of_ble_eq_true rfl) (Nat.le_of_ble_eq_true rfl) (Nat.le_of_ble_eq_true rfl) xt_650 xt_15 xt_648 rfl (iX4_records hq) rfl ?_
      refine x_aload_n (pc := 14) B 0 dX4_carryOut_14 rfl rfl ?_
      refine x_iconst (pc := 15) B dX4_carryOut_15 xk_iconst_0 ?_
      obtain ⟨w3, hv, h⟩ := xbind h
      refine x_putI (k0 := 6) (pc := 16) B dX4_carryOut_16 rfl xi_4 (by decide) ⟨rfl, rfl, rfl⟩ xt_608 tyX4_ok nmX4 rfl xpdI hv ?_
      refine x_iconst (pc := 19) B dX4_carryOut_19 xk_iconst_0 ?_
      refine x_istore_n (L1 := [(1, .int (0 : Int32)), (0, .ref a0)]) (pc := 20) B dX4_carryOut_20 rfl (by decide) rfl ?_
      refine x_sub (L1 := [(0, .ref a0), (1, .int (0 : Int32))]) [1, 0] rfl ?_
      exact pX4_carryOut_21 B hR 1000 a0 (0 : Int32) w3 h
  · exact absurd h (by simp)
