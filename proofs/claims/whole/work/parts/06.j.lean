theorem xk_bipush_m9 : (Int8.ofInt (-9)).toInt32 = (-9 : Int32) := by decide +kernel
theorem xk_bipush_m6 : (Int8.ofInt (-6)).toInt32 = (-6 : Int32) := by decide +kernel
theorem xk_bipush_m5 : (Int8.ofInt (-5)).toInt32 = (-5 : Int32) := by decide +kernel
theorem xk_bipush_m4 : (Int8.ofInt (-4)).toInt32 = (-4 : Int32) := by decide +kernel
theorem xk_bipush_m3 : (Int8.ofInt (-3)).toInt32 = (-3 : Int32) := by decide +kernel
theorem xk_bipush_m2 : (Int8.ofInt (-2)).toInt32 = (-2 : Int32) := by decide +kernel
theorem xk_bipush_6 : (Int8.ofInt 6).toInt32 = (6 : Int32) := by decide +kernel
theorem xk_bipush_7 : (Int8.ofInt 7).toInt32 = (7 : Int32) := by decide +kernel
theorem xk_bipush_8 : (Int8.ofInt 8).toInt32 = (8 : Int32) := by decide +kernel
theorem xk_bipush_9 : (Int8.ofInt 9).toInt32 = (9 : Int32) := by decide +kernel
theorem xk_bipush_12 : (Int8.ofInt 12).toInt32 = (12 : Int32) := by decide +kernel
theorem xk_bipush_16 : (Int8.ofInt 16).toInt32 = (16 : Int32) := by decide +kernel
theorem xk_bipush_25 : (Int8.ofInt 25).toInt32 = (25 : Int32) := by decide +kernel
theorem xk_bipush_27 : (Int8.ofInt 27).toInt32 = (27 : Int32) := by decide +kernel
theorem xk_bipush_31 : (Int8.ofInt 31).toInt32 = (31 : Int32) := by decide +kernel
theorem xk_bipush_32 : (Int8.ofInt 32).toInt32 = (32 : Int32) := by decide +kernel
theorem xk_bipush_33 : (Int8.ofInt 33).toInt32 = (33 : Int32) := by decide +kernel
theorem xk_bipush_45 : (Int8.ofInt 45).toInt32 = (45 : Int32) := by decide +kernel
theorem xk_bipush_48 : (Int8.ofInt 48).toInt32 = (48 : Int32) := by decide +kernel
theorem xk_bipush_50 : (Int8.ofInt 50).toInt32 = (50 : Int32) := by decide +kernel
theorem xk_bipush_57 : (Int8.ofInt 57).toInt32 = (57 : Int32) := by decide +kernel
theorem xk_bipush_59 : (Int8.ofInt 59).toInt32 = (59 : Int32) := by decide +kernel
theorem xk_bipush_61 : (Int8.ofInt 61).toInt32 = (61 : Int32) := by decide +kernel
theorem xk_bipush_62 : (Int8.ofInt 62).toInt32 = (62 : Int32) := by decide +kernel
theorem xk_bipush_63 : (Int8.ofInt 63).toInt32 = (63 : Int32) := by decide +kernel
theorem xk_bipush_66 : (Int8.ofInt 66).toInt32 = (66 : Int32) := by decide +kernel
theorem xk_bipush_69 : (Int8.ofInt 69).toInt32 = (69 : Int32) := by decide +kernel
theorem xk_bipush_71 : (Int8.ofInt 71).toInt32 = (71 : Int32) := by decide +kernel
theorem xk_bipush_72 : (Int8.ofInt 72).toInt32 = (72 : Int32) := by decide +kernel
theorem xk_bipush_80 : (Int8.ofInt 80).toInt32 = (80 : Int32) := by decide +kernel
theorem xk_bipush_100 : (Int8.ofInt 100).toInt32 = (100 : Int32) := by decide +kernel
theorem xk_bipush_111 : (Int8.ofInt 111).toInt32 = (111 : Int32) := by decide +kernel
theorem xk_bipush_117 : (Int8.ofInt 117).toInt32 = (117 : Int32) := by decide +kernel
theorem xk_bipush_119 : (Int8.ofInt 119).toInt32 = (119 : Int32) := by decide +kernel
theorem xk_bipush_125 : (Int8.ofInt 125).toInt32 = (125 : Int32) := by decide +kernel
theorem xk_bipush_126 : (Int8.ofInt 126).toInt32 = (126 : Int32) := by decide +kernel
theorem xk_iconst_m1 : Int32.ofInt (-1) = (-1 : Int32) := by decide +kernel
theorem xk_iconst_0 : Int32.ofInt 0 = (0 : Int32) := by decide +kernel
theorem xk_iconst_1 : Int32.ofInt 1 = (1 : Int32) := by decide +kernel
theorem xk_iconst_2 : Int32.ofInt 2 = (2 : Int32) := by decide +kernel
theorem xk_iconst_3 : Int32.ofInt 3 = (3 : Int32) := by decide +kernel
theorem xk_iconst_4 : Int32.ofInt 4 = (4 : Int32) := by decide +kernel
theorem xk_iconst_5 : Int32.ofInt 5 = (5 : Int32) := by decide +kernel
theorem xk_iconst_6 : Int32.ofInt 6 = (6 : Int32) := by decide +kernel
theorem xk_sipush_255 : (Int16.ofInt 255).toInt32 = (255 : Int32) := by decide +kernel
theorem xk_sipush_360 : (Int16.ofInt 360).toInt32 = (360 : Int32) := by decide +kernel
theorem xk_sipush_729 : (Int16.ofInt 729).toInt32 = (729 : Int32) := by decide +kernel
theorem xk_sipush_1000 : (Int16.ofInt 1000).toInt32 = (1000 : Int32) := by decide +kernel
def fJ7_rangeCheck_23922 (i0 : Int32) (i1 : Int32) (i2 : Int32) (w : XW) : Option XW :=
  if i1 ≤ i2 then
    if (0 : Int32) ≤ i1 then
      if i2 ≤ i0 then
        some w
      else
      none
    else
    none
  else
  none
theorem np_J7_rangeCheck_23922 : (parseMethodDescriptor yJ7_rangeCheck_23922.desc).map (fun d => d.parameters.length) = some 3 := by decide +kernel
theorem hy_J7_rangeCheck_23922 : yJ7_rangeCheck_23922.cls ≠ "java/lang/invoke/MethodHandle" ∧ yJ7_rangeCheck_23922.cls ≠ "java/lang/invoke/VarHandle" := ⟨by decide +kernel, by decide +kernel⟩
set_option maxRecDepth 20000 in
theorem eJ7_rangeCheck_23922 {cx : CX} {i0 : Int32} {i1 : Int32} {i2 : Int32} {w : XW} {R9 : XW} (h : fJ7_rangeCheck_23922 i0 i1 i2 w = some R9) : Ct yJ7_rangeCheck_23922 cJ7_rangeCheck_23922 3 none 0 0 cx [.int i0, .int i1, .int i2] w none R9 := by
  refine Ct_of (by decide +kernel) (Nat.le_of_ble_eq_true rfl) (fun K B hR => ?_)
  rw [fJ7_rangeCheck_23922] at h
  show Wx K cx 3 w.length 0 [(0, .int i0), (1, .int i1), (2, .int i2)] [] w
  refine x_iload_n (pc := 0) B 1 dJ7_rangeCheck_23922_0 rfl rfl ?_
  refine x_iload_n (pc := 1) B 2 dJ7_rangeCheck_23922_1 rfl rfl ?_
  rcases xite h with ⟨hc, h⟩ | ⟨hc, h⟩
  · refine x_icmp_le_t (tgt := 46) (pc := 2) B dJ7_rangeCheck_23922_2 (by decide) hc ?_
    refine x_iload_n (pc := 46) B 1 dJ7_rangeCheck_23922_46 rfl rfl ?_
    rcases xite h with ⟨hc, h⟩ | ⟨hc, h⟩
    · refine x_if_ge_t (tgt := 59) (pc := 47) B dJ7_rangeCheck_23922_47 (by decide) hc ?_
      refine x_iload_n (pc := 59) B 2 dJ7_rangeCheck_23922_59 rfl rfl ?_
      refine x_iload_n (pc := 60) B 0 dJ7_rangeCheck_23922_60 rfl rfl ?_
      rcases xite h with ⟨hc, h⟩ | ⟨hc, h⟩
      · refine x_icmp_le_t (tgt := 73) (pc := 61) B dJ7_rangeCheck_23922_61 (by decide) hc ?_
        exact x_vret (pc := 73) B hR dJ7_rangeCheck_23922_73 h
      · refine x_icmp_le_f (pc := 61) B 73 dJ7_rangeCheck_23922_61 (by decide) hc ?_
        exact absurd h (by simp)
    · refine x_if_ge_f (pc := 47) B 59 dJ7_rangeCheck_23922_47 (by decide) hc ?_
      exact absurd h (by simp)
  · refine x_icmp_le_f (pc := 2) B 46 dJ7_rangeCheck_23922_2 (by decide) hc ?_
    exact absurd h (by simp)
def fJ7_fill_fda19_10 : Nat → Nat → Int32 → Int32 → Int32 → XW → Option XW
  | 0, _, _, _, _, _ => none
  | g + 1, a0, i2, i3, i4, w =>
    if i2 ≤ i4 then
      some w
    else
    (xsI w a0 i4 i3).bind fun w3 =>
    fJ7_fill_fda19_10 g a0 i2 i3 (i4 + (1 : Int32)) w3
set_option maxRecDepth 20000 in
theorem pJ7_fill_fda19_10 {K : KX} {cx : CX} {nn : Nat} {R9 : XW} (B : XB K cx RJ7 cJ7_fill_fda19 5 nn 1 22) (hR : XR K cx nn none none R9) : ∀ (g : Nat) (a0 : Nat) (i2 : Int32) (i3 : Int32) (i4 : Int32) (w : XW), fJ7_fill_fda19_10 g a0 i2 i3 i4 w = some R9 → Wx K cx 5 nn 10 [(0, .ref a0), (2, .int i2), (3, .int i3), (4, .int i4)] [] w := by
  intro g
  induction g with
  | zero =>
    intro a0 i2 i3 i4 w h
    exact absurd (show (none : Option XW) = some R9 from h) (by simp)
  | succ g ih =>
    intro a0 i2 i3 i4 w h
    rw [fJ7_fill_fda19_10] at h
    refine x_iload (pc := 10) B 3 dJ7_fill_fda19_10 rfl ?_
    refine x_iload_n (pc := 12) B 1 dJ7_fill_fda19_12 rfl rfl ?_
    rcases xite h with ⟨hc, h⟩ | ⟨hc, h⟩
    · refine x_icmp_ge_t (tgt := 27) (pc := 13) B dJ7_fill_fda19_13 (by decide) hc ?_
      exact x_vret (pc := 27) B hR dJ7_fill_fda19_27 h
    · refine x_icmp_ge_f (pc := 13) B 27 dJ7_fill_fda19_13 (by decide) hc ?_
      refine x_aload_n (pc := 16) B 0 dJ7_fill_fda19_16 rfl rfl ?_
      refine x_iload (pc := 17) B 3 dJ7_fill_fda19_17 rfl ?_
      refine x_iload_n (pc := 19) B 2 dJ7_fill_fda19_19 rfl rfl ?_
      obtain ⟨w3, hv, h⟩ := xbind h
      refine x_iast (pc := 20) B dJ7_fill_fda19_20 hv ?_
      refine x_iinc (L1 := [(4, .int (i4 + (1 : Int32))), (0, .ref a0), (2, .int i2), (3, .int i3)]) (pc := 21) B 3 dJ7_fill_fda19_21 rfl (congrArg _ xk_iconst_1) (by decide) rfl ?_
      refine x_goto (tgt := 10) (pc := 24) B dJ7_fill_fda19_24 (by decide) ?_
      refine x_sub (L1 := [(0, .ref a0), (2, .int i2), (3, .int i3), (4, .int (i4 + (1 : Int32)))]) [1, 2, 3, 0] rfl ?_
      exact ih a0 i2 i3 (i4 + (1 : Int32)) w3 h
def fJ7_fill_fda19 (a0 : Nat) (i1 : Int32) (i2 : Int32) (i3 : Int32) (w : XW) : Option XW :=
  (xaL w a0).bind fun v1 =>
  (fJ7_rangeCheck_23922 v1 i1 i2 w).bind fun q2 =>
  fJ7_fill_fda19_10 1000 a0 i2 i3 i1 q2
theorem np_J7_fill_fda19 : (parseMethodDescriptor yJ7_fill_fda19.desc).map (fun d => d.parameters.length) = some 4 := by decide +kernel
theorem hy_J7_fill_fda19 : yJ7_fill_fda19.cls ≠ "java/lang/invoke/MethodHandle" ∧ yJ7_fill_fda19.cls ≠ "java/lang/invoke/VarHandle" := ⟨by decide +kernel, by decide +kernel⟩
set_option maxRecDepth 20000 in
theorem eJ7_fill_fda19 {cx : CX} {a0 : Nat} {i1 : Int32} {i2 : Int32} {i3 : Int32} {w : XW} {R9 : XW} (h : fJ7_fill_fda19 a0 i1 i2 i3 w = some R9) : Ct yJ7_fill_fda19 cJ7_fill_fda19 5 none 1 22 cx [.ref a0, .int i1, .int i2, .int i3] w none R9 := by
  refine Ct_of (by decide +kernel) (Nat.le_of_ble_eq_true rfl) (fun K B hR => ?_)
  rw [fJ7_fill_fda19] at h
  show Wx K cx 5 w.length 0 [(0, .ref a0), (1, .int i1), (2, .int i2), (3, .int i3)] [] w
  refine x_aload_n (pc := 0) B 0 dJ7_fill_fda19_0 rfl rfl ?_
  obtain ⟨v1, hv, h⟩ := xbind h
  refine x_alen (pc := 1) B dJ7_fill_fda19_1 hv ?_
  refine x_iload_n (pc := 2) B 1 dJ7_fill_fda19_2 rfl rfl ?_
  refine x_iload_n (pc := 3) B 2 dJ7_fill_fda19_3 rfl rfl ?_
  obtain ⟨q2, hq, h⟩ := xbind h
  refine x_callS0 (st := []) (pc := 4) B dJ7_fill_fda19_4 (eJ7_rangeCheck_23922 hq) xt_85 xt_55 np_J7_rangeCheck_23922 hy_J7_rangeCheck_23922 (Nat.le_of_ble_eq_true rfl) (Nat.le_of_ble_eq_true rfl) (Nat.le_of_ble_eq_true rfl) xt_84 xt_83 rfl ?_
  refine x_iload_n (pc := 7) B 1 dJ7_fill_fda19_7 rfl rfl ?_
  refine x_istore (L1 := [(4, .int i1), (0, .ref a0), (1, .int i1), (2, .int i2), (3, .int i3)]) (pc := 8) B dJ7_fill_fda19_8 (by decide) rfl ?_
  refine x_sub (L1 := [(0, .ref a0), (2, .int i2), (3, .int i3), (4, .int i1)]) [1, 3, 4, 0] rfl ?_
  exact pJ7_fill_fda19_10 B hR 1000 a0 i2 i3 i1 q2 h
def fJ7_fill_53178_5 : Nat → Nat → Int32 → Int32 → Int32 → XW → Option XW
  | 0, _, _, _, _, _ => none
  | g + 1, a0, i1, i2, i3, w =>
    if i3 ≤ i2 then
      some w
    else
    (xsI w a0 i2 i1).bind fun w2 =>
    fJ7_fill_53178_5 g a0 i1 (i2 + (1 : Int32)) i3 w2
set_option maxRecDepth 20000 in
theorem pJ7_fill_53178_5 {K : KX} {cx : CX} {nn : Nat} {R9 : XW} (B : XB K cx RJ7 cJ7_fill_53178 4 nn 0 0) (hR : XR K cx nn none none R9) : ∀ (g : Nat) (a0 : Nat) (i1 : Int32) (i2 : Int32) (i3 : Int32) (w : XW), fJ7_fill_53178_5 g a0 i1 i2 i3 w = some R9 → Wx K cx 4 nn 5 [(0, .ref a0), (1, .int i1), (2, .int i2), (3, .int i3)] [] w := by
  intro g
  induction g with
  | zero =>
    intro a0 i1 i2 i3 w h
    exact absurd (show (none : Option XW) = some R9 from h) (by simp)
  | succ g ih =>
    intro a0 i1 i2 i3 w h
    rw [fJ7_fill_53178_5] at h
    refine x_iload_n (pc := 5) B 2 dJ7_fill_53178_5 rfl rfl ?_
    refine x_iload_n (pc := 6) B 3 dJ7_fill_53178_6 rfl rfl ?_
    rcases xite h with ⟨hc, h⟩ | ⟨hc, h⟩
    · refine x_icmp_ge_t (tgt := 20) (pc := 7) B dJ7_fill_53178_7 (by decide) hc ?_
      exact x_vret (pc := 20) B hR dJ7_fill_53178_20 h
    · refine x_icmp_ge_f (pc := 7) B 20 dJ7_fill_53178_7 (by decide) hc ?_
      refine x_aload_n (pc := 10) B 0 dJ7_fill_53178_10 rfl rfl ?_
      refine x_iload_n (pc := 11) B 2 dJ7_fill_53178_11 rfl rfl ?_
      refine x_iload_n (pc := 12) B 1 dJ7_fill_53178_12 rfl rfl ?_
      obtain ⟨w2, hv, h⟩ := xbind h
      refine x_iast (pc := 13) B dJ7_fill_53178_13 hv ?_
      refine x_iinc (L1 := [(2, .int (i2 + (1 : Int32))), (0, .ref a0), (1, .int i1), (3, .int i3)]) (pc := 14) B 2 dJ7_fill_53178_14 rfl (congrArg _ xk_iconst_1) (by decide) rfl ?_
      refine x_goto (tgt := 5) (pc := 17) B dJ7_fill_53178_17 (by decide) ?_
      refine x_sub (L1 := [(0, .ref a0), (1, .int i1), (2, .int (i2 + (1 : Int32))), (3, .int i3)]) [1, 2, 0, 3] rfl ?_
      exact ih a0 i1 (i2 + (1 : Int32)) i3 w2 h
def fJ7_fill_53178 (a0 : Nat) (i1 : Int32) (w : XW) : Option XW :=
  (xaL w a0).bind fun v1 =>
  fJ7_fill_53178_5 1000 a0 i1 (0 : Int32) v1 w
theorem np_J7_fill_53178 : (parseMethodDescriptor yJ7_fill_53178.desc).map (fun d => d.parameters.length) = some 2 := by decide +kernel
theorem hy_J7_fill_53178 : yJ7_fill_53178.cls ≠ "java/lang/invoke/MethodHandle" ∧ yJ7_fill_53178.cls ≠ "java/lang/invoke/VarHandle" := ⟨by decide +kernel, by decide +kernel⟩
set_option maxRecDepth 20000 in
theorem eJ7_fill_53178 {cx : CX} {a0 : Nat} {i1 : Int32} {w : XW} {R9 : XW} (h : fJ7_fill_53178 a0 i1 w = some R9) : Ct yJ7_fill_53178 cJ7_fill_53178 4 none 0 0 cx [.ref a0, .int i1] w none R9 := by
  refine Ct_of (by decide +kernel) (Nat.le_of_ble_eq_true rfl) (fun K B hR => ?_)
  rw [fJ7_fill_53178] at h
  show Wx K cx 4 w.length 0 [(0, .ref a0), (1, .int i1)] [] w
  refine x_iconst (pc := 0) B dJ7_fill_53178_0 xk_iconst_0 ?_
  refine x_istore_n (L1 := [(2, .int (0 : Int32)), (0, .ref a0), (1, .int i1)]) (pc := 1) B dJ7_fill_53178_1 rfl (by decide) rfl ?_
  refine x_aload_n (pc := 2) B 1 dJ7_fill_53178_2 rfl rfl ?_
  obtain ⟨v1, hv, h⟩ := xbind h
  refine x_alen (pc := 3) B dJ7_fill_53178_3 hv ?_
  refine x_istore_n (L1 := [(3, .int v1), (2, .int (0 : Int32)), (0, .ref a0), (1, .int i1)]) (pc := 4) B dJ7_fill_53178_4 rfl (by decide) rfl ?_
  refine x_sub (L1 := [(0, .ref a0), (1, .int i1), (2, .int (0 : Int32)), (3, .int v1)]) [2, 3, 1, 0] rfl ?_
  exact pJ7_fill_53178_5 B hR 1000 a0 i1 (0 : Int32) v1 w h
def fJ6_bitCount_0f7a4 (i0 : Int32) (w : XW) : Option (Int32 × XW) :=
  some (((((((((i0 - ((((i0).toUInt32 >>> (((1 : Int32)).toUInt32 &&& Int32.toUInt32 31)).toInt32) &&& (1431655765 : Int32))) &&& (858993459 : Int32)) + (((((i0 - ((((i0).toUInt32 >>> (((1 : Int32)).toUInt32 &&& Int32.toUInt32 31)).toInt32) &&& (1431655765 : Int32)))).toUInt32 >>> (((2 : Int32)).toUInt32 &&& Int32.toUInt32 31)).toInt32) &&& (858993459 : Int32))) + ((((((i0 - ((((i0).toUInt32 >>> (((1 : Int32)).toUInt32 &&& Int32.toUInt32 31)).toInt32) &&& (1431655765 : Int32))) &&& (858993459 : Int32)) + (((((i0 - ((((i0).toUInt32 >>> (((1 : Int32)).toUInt32 &&& Int32.toUInt32 31)).toInt32) &&& (1431655765 : Int32)))).toUInt32 >>> (((2 : Int32)).toUInt32 &&& Int32.toUInt32 31)).toInt32) &&& (858993459 : Int32)))).toUInt32 >>> (((4 : Int32)).toUInt32 &&& Int32.toUInt32 31)).toInt32)) &&& (252645135 : Int32)) + ((((((((i0 - ((((i0).toUInt32 >>> (((1 : Int32)).toUInt32 &&& Int32.toUInt32 31)).toInt32) &&& (1431655765 : Int32))) &&& (858993459 : Int32)) + (((((i0 - ((((i0).toUInt32 >>> (((1 : Int32)).toUInt32 &&& Int32.toUInt32 31)).toInt32) &&& (1431655765 : Int32)))).toUInt32 >>> (((2 : Int32)).toUInt32 &&& Int32.toUInt32 31)).toInt32) &&& (858993459 : Int32))) + ((((((i0 - ((((i0).toUInt32 >>> (((1 : Int32)).toUInt32 &&& Int32.toUInt32 31)).toInt32) &&& (1431655765 : Int32))) &&& (858993459 : Int32)) + (((((i0 - ((((i0).toUInt32 >>> (((1 : Int32)).toUInt32 &&& Int32.toUInt32 31)).toInt32) &&& (1431655765 : Int32)))).toUInt32 >>> (((2 : Int32)).toUInt32 &&& Int32.toUInt32 31)).toInt32) &&& (858993459 : Int32)))).toUInt32 >>> (((4 : Int32)).toUInt32 &&& Int32.toUInt32 31)).toInt32)) &&& (252645135 : Int32))).toUInt32 >>> (((8 : Int32)).toUInt32 &&& Int32.toUInt32 31)).toInt32)) + (((((((((i0 - ((((i0).toUInt32 >>> (((1 : Int32)).toUInt32 &&& Int32.toUInt32 31)).toInt32) &&& (1431655765 : Int32))) &&& (858993459 : Int32)) + (((((i0 - ((((i0).toUInt32 >>> (((1 : Int32)).toUInt32 &&& Int32.toUInt32 31)).toInt32) &&& (1431655765 : Int32)))).toUInt32 >>> (((2 : Int32)).toUInt32 &&& Int32.toUInt32 31)).toInt32) &&& (858993459 : Int32))) + ((((((i0 - ((((i0).toUInt32 >>> (((1 : Int32)).toUInt32 &&& Int32.toUInt32 31)).toInt32) &&& (1431655765 : Int32))) &&& (858993459 : Int32)) + (((((i0 - ((((i0).toUInt32 >>> (((1 : Int32)).toUInt32 &&& Int32.toUInt32 31)).toInt32) &&& (1431655765 : Int32)))).toUInt32 >>> (((2 : Int32)).toUInt32 &&& Int32.toUInt32 31)).toInt32) &&& (858993459 : Int32)))).toUInt32 >>> (((4 : Int32)).toUInt32 &&& Int32.toUInt32 31)).toInt32)) &&& (252645135 : Int32)) + ((((((((i0 - ((((i0).toUInt32 >>> (((1 : Int32)).toUInt32 &&& Int32.toUInt32 31)).toInt32) &&& (1431655765 : Int32))) &&& (858993459 : Int32)) + (((((i0 - ((((i0).toUInt32 >>> (((1 : Int32)).toUInt32 &&& Int32.toUInt32 31)).toInt32) &&& (1431655765 : Int32)))).toUInt32 >>> (((2 : Int32)).toUInt32 &&& Int32.toUInt32 31)).toInt32) &&& (858993459 : Int32))) + ((((((i0 - ((((i0).toUInt32 >>> (((1 : Int32)).toUInt32 &&& Int32.toUInt32 31)).toInt32) &&& (1431655765 : Int32))) &&& (858993459 : Int32)) + (((((i0 - ((((i0).toUInt32 >>> (((1 : Int32)).toUInt32 &&& Int32.toUInt32 31)).toInt32) &&& (1431655765 : Int32)))).toUInt32 >>> (((2 : Int32)).toUInt32 &&& Int32.toUInt32 31)).toInt32) &&& (858993459 : Int32)))).toUInt32 >>> (((4 : Int32)).toUInt32 &&& Int32.toUInt32 31)).toInt32)) &&& (252645135 : Int32))).toUInt32 >>> (((8 : Int32)).toUInt32 &&& Int32.toUInt32 31)).toInt32))).toUInt32 >>> (((16 : Int32)).toUInt32 &&& Int32.toUInt32 31)).toInt32)) &&& (63 : Int32)), w)
theorem np_J6_bitCount_0f7a4 : (parseMethodDescriptor yJ6_bitCount_0f7a4.desc).map (fun d => d.parameters.length) = some 1 := by decide +kernel
theorem hy_J6_bitCount_0f7a4 : yJ6_bitCount_0f7a4.cls ≠ "java/lang/invoke/MethodHandle" ∧ yJ6_bitCount_0f7a4.cls ≠ "java/lang/invoke/VarHandle" := ⟨by decide +kernel, by decide +kernel⟩
set_option maxRecDepth 20000 in
theorem eJ6_bitCount_0f7a4 {cx : CX} {i0 : Int32} {w : XW} {R9 : (Int32 × XW)} (h : fJ6_bitCount_0f7a4 i0 w = some R9) : Ct yJ6_bitCount_0f7a4 cJ6_bitCount_0f7a4 1 (some .int) 0 0 cx [.int i0] w (some (.int R9.1)) R9.2 := by
  refine Ct_of (by decide +kernel) (Nat.le_of_ble_eq_true rfl) (fun K B hR => ?_)
  rw [fJ6_bitCount_0f7a4] at h
  show Wx K cx 1 w.length 0 [(0, .int i0)] [] w
  refine x_iload_n (pc := 0) B 0 dJ6_bitCount_0f7a4_0 rfl rfl ?_
  refine x_iload_n (pc := 1) B 0 dJ6_bitCount_0f7a4_1 rfl rfl ?_
  refine x_iconst (pc := 2) B dJ6_bitCount_0f7a4_2 xk_iconst_1 ?_
  refine x_iushr (pc := 3) B dJ6_bitCount_0f7a4_3 ?_
  refine x_ldcw (pc := 4) B dJ6_bitCount_0f7a4_4 xt_339 ?_
  refine x_iand (pc := 7) B dJ6_bitCount_0f7a4_7 ?_
  refine x_isub (pc := 8) B dJ6_bitCount_0f7a4_8 ?_
  refine x_istore_n (L1 := [(0, .int (i0 - ((((i0).toUInt32 >>> (((1 : Int32)).toUInt32 &&& Int32.toUInt32 31)).toInt32) &&& (1431655765 : Int32))))]) (pc := 9) B dJ6_bitCount_0f7a4_9 rfl (by decide) rfl ?_
  refine x_iload_n (pc := 10) B 0 dJ6_bitCount_0f7a4_10 rfl rfl ?_
  refine x_ldcw (pc := 11) B dJ6_bitCount_0f7a4_11 xt_340 ?_
  refine x_iand (pc := 14) B dJ6_bitCount_0f7a4_14 ?_
  refine x_iload_n (pc := 15) B 0 dJ6_bitCount_0f7a4_15 rfl rfl ?_
  refine x_iconst (pc := 16) B dJ6_bitCount_0f7a4_16 xk_iconst_2 ?_
  refine x_iushr (pc := 17) B dJ6_bitCount_0f7a4_17 ?_
  refine x_ldcw (pc := 18) B dJ6_bitCount_0f7a4_18 xt_340 ?_
  refine x_iand (pc := 21) B dJ6_bitCount_0f7a4_21 ?_
  refine x_iadd (pc := 22) B dJ6_bitCount_0f7a4_22 ?_
  refine x_istore_n (L1 := [(0, .int (((i0 - ((((i0).toUInt32 >>> (((1 : Int32)).toUInt32 &&& Int32.toUInt32 31)).toInt32) &&& (1431655765 : Int32))) &&& (858993459 : Int32)) + (((((i0 - ((((i0).toUInt32 >>> (((1 : Int32)).toUInt32 &&& Int32.toUInt32 31)).toInt32) &&& (1431655765 : Int32)))).toUInt32 >>> (((2 : Int32)).toUInt32 &&& Int32.toUInt32 31)).toInt32) &&& (858993459 : Int32))))]) (pc := 23) B dJ6_bitCount_0f7a4_23 rfl (by decide) rfl ?_
  refine x_iload_n (pc := 24) B 0 dJ6_bitCount_0f7a4_24 rfl rfl ?_
  refine x_iload_n (pc := 25) B 0 dJ6_bitCount_0f7a4_25 rfl rfl ?_
  refine x_iconst (pc := 26) B dJ6_bitCount_0f7a4_26 xk_iconst_4 ?_
  refine x_iushr (pc := 27) B dJ6_bitCount_0f7a4_27 ?_
  refine x_iadd (pc := 28) B dJ6_bitCount_0f7a4_28 ?_
  refine x_ldcw (pc := 29) B dJ6_bitCount_0f7a4_29 xt_341 ?_
  refine x_iand (pc := 32) B dJ6_bitCount_0f7a4_32 ?_
  refine x_istore_n (L1 := [(0, .int (((((i0 - ((((i0).toUInt32 >>> (((1 : Int32)).toUInt32 &&& Int32.toUInt32 31)).toInt32) &&& (1431655765 : Int32))) &&& (858993459 : Int32)) + (((((i0 - ((((i0).toUInt32 >>> (((1 : Int32)).toUInt32 &&& Int32.toUInt32 31)).toInt32) &&& (1431655765 : Int32)))).toUInt32 >>> (((2 : Int32)).toUInt32 &&& Int32.toUInt32 31)).toInt32) &&& (858993459 : Int32))) + ((((((i0 - ((((i0).toUInt32 >>> (((1 : Int32)).toUInt32 &&& Int32.toUInt32 31)).toInt32) &&& (1431655765 : Int32))) &&& (858993459 : Int32)) + (((((i0 - ((((i0).toUInt32 >>> (((1 : Int32)).toUInt32 &&& Int32.toUInt32 31)).toInt32) &&& (1431655765 : Int32)))).toUInt32 >>> (((2 : Int32)).toUInt32 &&& Int32.toUInt32 31)).toInt32) &&& (858993459 : Int32)))).toUInt32 >>> (((4 : Int32)).toUInt32 &&& Int32.toUInt32 31)).toInt32)) &&& (252645135 : Int32)))]) (pc := 33) B dJ6_bitCount_0f7a4_33 rfl (by decide) rfl ?_
  refine x_iload_n (pc := 34) B 0 dJ6_bitCount_0f7a4_34 rfl rfl ?_
  refine x_iload_n (pc := 35) B 0 dJ6_bitCount_0f7a4_35 rfl rfl ?_
  refine x_bipush (pc := 36) B dJ6_bitCount_0f7a4_36 xk_bipush_8 ?_
  refine x_iushr (pc := 38) B dJ6_bitCount_0f7a4_38 ?_
  refine x_iadd (pc := 39) B dJ6_bitCount_0f7a4_39 ?_
  refine x_istore_n (L1 := [(0, .int ((((((i0 - ((((i0).toUInt32 >>> (((1 : Int32)).toUInt32 &&& Int32.toUInt32 31)).toInt32) &&& (1431655765 : Int32))) &&& (858993459 : Int32)) + (((((i0 - ((((i0).toUInt32 >>> (((1 : Int32)).toUInt32 &&& Int32.toUInt32 31)).toInt32) &&& (1431655765 : Int32)))).toUInt32 >>> (((2 : Int32)).toUInt32 &&& Int32.toUInt32 31)).toInt32) &&& (858993459 : Int32))) + ((((((i0 - ((((i0).toUInt32 >>> (((1 : Int32)).toUInt32 &&& Int32.toUInt32 31)).toInt32) &&& (1431655765 : Int32))) &&& (858993459 : Int32)) + (((((i0 - ((((i0).toUInt32 >>> (((1 : Int32)).toUInt32 &&& Int32.toUInt32 31)).toInt32) &&& (1431655765 : Int32)))).toUInt32 >>> (((2 : Int32)).toUInt32 &&& Int32.toUInt32 31)).toInt32) &&& (858993459 : Int32)))).toUInt32 >>> (((4 : Int32)).toUInt32 &&& Int32.toUInt32 31)).toInt32)) &&& (252645135 : Int32)) + ((((((((i0 - ((((i0).toUInt32 >>> (((1 : Int32)).toUInt32 &&& Int32.toUInt32 31)).toInt32) &&& (1431655765 : Int32))) &&& (858993459 : Int32)) + (((((i0 - ((((i0).toUInt32 >>> (((1 : Int32)).toUInt32 &&& Int32.toUInt32 31)).toInt32) &&& (1431655765 : Int32)))).toUInt32 >>> (((2 : Int32)).toUInt32 &&& Int32.toUInt32 31)).toInt32) &&& (858993459 : Int32))) + ((((((i0 - ((((i0).toUInt32 >>> (((1 : Int32)).toUInt32 &&& Int32.toUInt32 31)).toInt32) &&& (1431655765 : Int32))) &&& (858993459 : Int32)) + (((((i0 - ((((i0).toUInt32 >>> (((1 : Int32)).toUInt32 &&& Int32.toUInt32 31)).toInt32) &&& (1431655765 : Int32)))).toUInt32 >>> (((2 : Int32)).toUInt32 &&& Int32.toUInt32 31)).toInt32) &&& (858993459 : Int32)))).toUInt32 >>> (((4 : Int32)).toUInt32 &&& Int32.toUInt32 31)).toInt32)) &&& (252645135 : Int32))).toUInt32 >>> (((8 : Int32)).toUInt32 &&& Int32.toUInt32 31)).toInt32)))]) (pc := 40) B dJ6_bitCount_0f7a4_40 rfl (by decide) rfl ?_
  refine x_iload_n (pc := 41) B 0 dJ6_bitCount_0f7a4_41 rfl rfl ?_
  refine x_iload_n (pc := 42) B 0 dJ6_bitCount_0f7a4_42 rfl rfl ?_
  refine x_bipush (pc := 43) B dJ6_bitCount_0f7a4_43 xk_bipush_16 ?_
  refine x_iushr (pc := 45) B dJ6_bitCount_0f7a4_45 ?_
  refine x_iadd (pc := 46) B dJ6_bitCount_0f7a4_46 ?_
  refine x_istore_n (L1 := [(0, .int (((((((i0 - ((((i0).toUInt32 >>> (((1 : Int32)).toUInt32 &&& Int32.toUInt32 31)).toInt32) &&& (1431655765 : Int32))) &&& (858993459 : Int32)) + (((((i0 - ((((i0).toUInt32 >>> (((1 : Int32)).toUInt32 &&& Int32.toUInt32 31)).toInt32) &&& (1431655765 : Int32)))).toUInt32 >>> (((2 : Int32)).toUInt32 &&& Int32.toUInt32 31)).toInt32) &&& (858993459 : Int32))) + ((((((i0 - ((((i0).toUInt32 >>> (((1 : Int32)).toUInt32 &&& Int32.toUInt32 31)).toInt32) &&& (1431655765 : Int32))) &&& (858993459 : Int32)) + (((((i0 - ((((i0).toUInt32 >>> (((1 : Int32)).toUInt32 &&& Int32.toUInt32 31)).toInt32) &&& (1431655765 : Int32)))).toUInt32 >>> (((2 : Int32)).toUInt32 &&& Int32.toUInt32 31)).toInt32) &&& (858993459 : Int32)))).toUInt32 >>> (((4 : Int32)).toUInt32 &&& Int32.toUInt32 31)).toInt32)) &&& (252645135 : Int32)) + ((((((((i0 - ((((i0).toUInt32 >>> (((1 : Int32)).toUInt32 &&& Int32.toUInt32 31)).toInt32) &&& (1431655765 : Int32))) &&& (858993459 : Int32)) + (((((i0 - ((((i0).toUInt32 >>> (((1 : Int32)).toUInt32 &&& Int32.toUInt32 31)).toInt32) &&& (1431655765 : Int32)))).toUInt32 >>> (((2 : Int32)).toUInt32 &&& Int32.toUInt32 31)).toInt32) &&& (858993459 : Int32))) + ((((((i0 - ((((i0).toUInt32 >>> (((1 : Int32)).toUInt32 &&& Int32.toUInt32 31)).toInt32) &&& (1431655765 : Int32))) &&& (858993459 : Int32)) + (((((i0 - ((((i0).toUInt32 >>> (((1 : Int32)).toUInt32 &&& Int32.toUInt32 31)).toInt32) &&& (1431655765 : Int32)))).toUInt32 >>> (((2 : Int32)).toUInt32 &&& Int32.toUInt32 31)).toInt32) &&& (858993459 : Int32)))).toUInt32 >>> (((4 : Int32)).toUInt32 &&& Int32.toUInt32 31)).toInt32)) &&& (252645135 : Int32))).toUInt32 >>> (((8 : Int32)).toUInt32 &&& Int32.toUInt32 31)).toInt32)) + (((((((((i0 - ((((i0).toUInt32 >>> (((1 : Int32)).toUInt32 &&& Int32.toUInt32 31)).toInt32) &&& (1431655765 : Int32))) &&& (858993459 : Int32)) + (((((i0 - ((((i0).toUInt32 >>> (((1 : Int32)).toUInt32 &&& Int32.toUInt32 31)).toInt32) &&& (1431655765 : Int32)))).toUInt32 >>> (((2 : Int32)).toUInt32 &&& Int32.toUInt32 31)).toInt32) &&& (858993459 : Int32))) + ((((((i0 - ((((i0).toUInt32 >>> (((1 : Int32)).toUInt32 &&& Int32.toUInt32 31)).toInt32) &&& (1431655765 : Int32))) &&& (858993459 : Int32)) + (((((i0 - ((((i0).toUInt32 >>> (((1 : Int32)).toUInt32 &&& Int32.toUInt32 31)).toInt32) &&& (1431655765 : Int32)))).toUInt32 >>> (((2 : Int32)).toUInt32 &&& Int32.toUInt32 31)).toInt32) &&& (858993459 : Int32)))).toUInt32 >>> (((4 : Int32)).toUInt32 &&& Int32.toUInt32 31)).toInt32)) &&& (252645135 : Int32)) + ((((((((i0 - ((((i0).toUInt32 >>> (((1 : Int32)).toUInt32 &&& Int32.toUInt32 31)).toInt32) &&& (1431655765 : Int32))) &&& (858993459 : Int32)) + (((((i0 - ((((i0).toUInt32 >>> (((1 : Int32)).toUInt32 &&& Int32.toUInt32 31)).toInt32) &&& (1431655765 : Int32)))).toUInt32 >>> (((2 : Int32)).toUInt32 &&& Int32.toUInt32 31)).toInt32) &&& (858993459 : Int32))) + ((((((i0 - ((((i0).toUInt32 >>> (((1 : Int32)).toUInt32 &&& Int32.toUInt32 31)).toInt32) &&& (1431655765 : Int32))) &&& (858993459 : Int32)) + (((((i0 - ((((i0).toUInt32 >>> (((1 : Int32)).toUInt32 &&& Int32.toUInt32 31)).toInt32) &&& (1431655765 : Int32)))).toUInt32 >>> (((2 : Int32)).toUInt32 &&& Int32.toUInt32 31)).toInt32) &&& (858993459 : Int32)))).toUInt32 >>> (((4 : Int32)).toUInt32 &&& Int32.toUInt32 31)).toInt32)) &&& (252645135 : Int32))).toUInt32 >>> (((8 : Int32)).toUInt32 &&& Int32.toUInt32 31)).toInt32))).toUInt32 >>> (((16 : Int32)).toUInt32 &&& Int32.toUInt32 31)).toInt32)))]) (pc := 47) B dJ6_bitCount_0f7a4_47 rfl (by decide) rfl ?_
  refine x_iload_n (pc := 48) B 0 dJ6_bitCount_0f7a4_48 rfl rfl ?_
  refine x_bipush (pc := 49) B dJ6_bitCount_0f7a4_49 xk_bipush_63 ?_
  refine x_iand (pc := 51) B dJ6_bitCount_0f7a4_51 ?_
  exact x_iret (pc := 52) B hR dJ6_bitCount_0f7a4_52 (xzI _) h
def fJ0_isEmpty_aae02 (a0 : Nat) (w : XW) : Option (Int32 × XW) := if xis' a0 = true then
  (xsv a0).bind fun v1 =>
  (xbl v1).bind fun v2 =>
  if v2 = (0 : Int32) then
    some ((1 : Int32), w)
  else
  some ((0 : Int32), w)
  else none
theorem iJ0_isEmpty_aae02 {a0 : Nat} {w : XW} {R9 : (Int32 × XW)} (h : fJ0_isEmpty_aae02 a0 w = some R9) : xis' a0 = true := by
  unfold fJ0_isEmpty_aae02 at h
  rcases xite h with ⟨hc, h⟩ | ⟨hc, h⟩
  · exact hc
  · exact absurd h (by simp)
theorem np_J0_isEmpty_aae02 : (parseMethodDescriptor yJ0_isEmpty_aae02.desc).map (fun d => d.parameters.length) = some 0 := by decide +kernel
theorem hy_J0_isEmpty_aae02 : yJ0_isEmpty_aae02.cls ≠ "java/lang/invoke/MethodHandle" ∧ yJ0_isEmpty_aae02.cls ≠ "java/lang/invoke/VarHandle" := ⟨by decide +kernel, by decide +kernel⟩
set_option maxRecDepth 20000 in
theorem eJ0_isEmpty_aae02 {cx : CX} {a0 : Nat} {w : XW} {R9 : (Int32 × XW)} (h : fJ0_isEmpty_aae02 a0 w = some R9) : Ct yJ0_isEmpty_aae02 cJ0_isEmpty_aae02 1 (some .boolean) 0 0 cx [.ref a0] w (some (.int R9.1)) R9.2 := by
  refine Ct_of (by decide +kernel) (Nat.le_of_ble_eq_true rfl) (fun K B hR => ?_)
  rw [fJ0_isEmpty_aae02] at h
  show Wx K cx 1 w.length 0 [(0, .ref a0)] [] w
  rcases xite h with ⟨hc, h⟩ | ⟨hc, h⟩
  · skip
    refine x_aload_n (pc := 0) B 0 dJ0_isEmpty_aae02_0 rfl rfl ?_
    obtain ⟨v1, hv, h⟩ := xbind h
    refine x_sval (pc := 1) B dJ0_isEmpty_aae02_1 xt_900 hv ?_
    obtain ⟨v2, hv, h⟩ := xbind h
    refine x_blen (pc := 4) B dJ0_isEmpty_aae02_4 hv ?_
    rcases xite h with ⟨hc, h⟩ | ⟨hc, h⟩
    · refine x_if_ne_f (pc := 5) B 12 dJ0_isEmpty_aae02_5 (by decide) hc ?_
      refine x_iconst (pc := 8) B dJ0_isEmpty_aae02_8 xk_iconst_1 ?_
      refine x_goto (tgt := 13) (pc := 9) B dJ0_isEmpty_aae02_9 (by decide) ?_
      exact x_iret (pc := 13) B hR dJ0_isEmpty_aae02_13 xz1 h
    · refine x_if_ne_t (tgt := 12) (pc := 5) B dJ0_isEmpty_aae02_5 (by decide) hc ?_
      refine x_iconst (pc := 12) B dJ0_isEmpty_aae02_12 xk_iconst_0 ?_
      exact x_iret (pc := 13) B hR dJ0_isEmpty_aae02_13 xz0 h
  · exact absurd h (by simp)
def fJ0_coder_7d493 (a0 : Nat) (w : XW) : Option (Int32 × XW) := if xis' a0 = true then
  if xis' a0 = true then
    if vp_nar .byte (0 : Int32) = (0 : Int32) then some ((0 : Int32), w) else none
  else none
  else none
theorem iJ0_coder_7d493 {a0 : Nat} {w : XW} {R9 : (Int32 × XW)} (h : fJ0_coder_7d493 a0 w = some R9) : xis' a0 = true := by
  unfold fJ0_coder_7d493 at h
  rcases xite h with ⟨hc, h⟩ | ⟨hc, h⟩
  · exact hc
  · exact absurd h (by simp)
theorem np_J0_coder_7d493 : (parseMethodDescriptor yJ0_coder_7d493.desc).map (fun d => d.parameters.length) = some 0 := by decide +kernel
theorem hy_J0_coder_7d493 : yJ0_coder_7d493.cls ≠ "java/lang/invoke/MethodHandle" ∧ yJ0_coder_7d493.cls ≠ "java/lang/invoke/VarHandle" := ⟨by decide +kernel, by decide +kernel⟩
set_option maxRecDepth 20000 in
theorem eJ0_coder_7d493 {cx : CX} {a0 : Nat} {w : XW} {R9 : (Int32 × XW)} (h : fJ0_coder_7d493 a0 w = some R9) : Ct yJ0_coder_7d493 cJ0_coder_7d493 1 (some .byte) 0 0 cx [.ref a0] w (some (.int R9.1)) R9.2 := by
  refine Ct_of (by decide +kernel) (Nat.le_of_ble_eq_true rfl) (fun K B hR => ?_)
  rw [fJ0_coder_7d493] at h
  show Wx K cx 1 w.length 0 [(0, .ref a0)] [] w
  rcases xite h with ⟨hc, h⟩ | ⟨hc, h⟩
  · skip
    refine x_gsC (pc := 0) B dJ0_coder_7d493_0 xt_512 ?_
    refine x_if_eq_f (pc := 3) B 13 dJ0_coder_7d493_3 (by decide) (by decide) ?_
    refine x_aload_n (pc := 6) B 0 dJ0_coder_7d493_6 rfl rfl ?_
    rcases xite h with ⟨hc, h⟩ | ⟨hc, h⟩
    · refine x_scod (pc := 7) B dJ0_coder_7d493_7 xt_901 hc ?_
      refine x_goto (tgt := 14) (pc := 10) B dJ0_coder_7d493_10 (by decide) ?_
      rcases xite h with ⟨hc, h⟩ | ⟨hc, h⟩
      · exact x_iret (pc := 14) B hR dJ0_coder_7d493_14 (xnar (Or.inr (Or.inr rfl)) hc) h
      · exact absurd h (by simp)
    · exact absurd h (by simp)
  · exact absurd h (by simp)
def fJ0_length_8abf5 (a0 : Nat) (w : XW) : Option (Int32 × XW) := if xis' a0 = true then
  (xsv a0).bind fun v1 =>
  (xbl v1).bind fun v2 =>
  (fJ0_coder_7d493 a0 w).bind fun q3 =>
  some ((v2 >>> (q3.1 &&& 31)), q3.2)
  else none
theorem iJ0_length_8abf5 {a0 : Nat} {w : XW} {R9 : (Int32 × XW)} (h : fJ0_length_8abf5 a0 w = some R9) : xis' a0 = true := by
  unfold fJ0_length_8abf5 at h
  rcases xite h with ⟨hc, h⟩ | ⟨hc, h⟩
  · exact hc
  · exact absurd h (by simp)
theorem np_J0_length_8abf5 : (parseMethodDescriptor yJ0_length_8abf5.desc).map (fun d => d.parameters.length) = some 0 := by decide +kernel
theorem hy_J0_length_8abf5 : yJ0_length_8abf5.cls ≠ "java/lang/invoke/MethodHandle" ∧ yJ0_length_8abf5.cls ≠ "java/lang/invoke/VarHandle" := ⟨by decide +kernel, by decide +kernel⟩
set_option maxRecDepth 20000 in
theorem eJ0_length_8abf5 {cx : CX} {a0 : Nat} {w : XW} {R9 : (Int32 × XW)} (h : fJ0_length_8abf5 a0 w = some R9) : Ct yJ0_length_8abf5 cJ0_length_8abf5 1 (some .int) 1 20 cx [.ref a0] w (some (.int R9.1)) R9.2 := by
  refine Ct_of (by decide +kernel) (Nat.le_of_ble_eq_true rfl) (fun K B hR => ?_)
  rw [fJ0_length_8abf5] at h
  show Wx K cx 1 w.length 0 [(0, .ref a0)] [] w
  rcases xite h with ⟨hc, h⟩ | ⟨hc, h⟩
  · skip
    refine x_aload_n (pc := 0) B 0 dJ0_length_8abf5_0 rfl rfl ?_
    obtain ⟨v1, hv, h⟩ := xbind h
    refine x_sval (pc := 1) B dJ0_length_8abf5_1 xt_900 hv ?_
    obtain ⟨v2, hv, h⟩ := xbind h
    refine x_blen (pc := 4) B dJ0_length_8abf5_4 hv ?_
    refine x_aload_n (pc := 5) B 0 dJ0_length_8abf5_5 rfl rfl ?_
    obtain ⟨q3, hq, h⟩ := xbind h
    refine x_callVs1 (st := [.int v2]) (pc := 6) B dJ0_length_8abf5_6 (eJ0_coder_7d493 hq) xt_511 xt_62 np_J0_coder_7d493 hy_J0_coder_7d493 (Nat.le_of_ble_eq_true rfl) (Nat.le_of_ble_eq_true rfl) (Nat.le_of_ble_eq_true rfl) xt_509 xt_510 xt_508 rfl (iJ0_coder_7d493 hq) rfl ?_
    refine x_ishr (pc := 9) B dJ0_length_8abf5_9 ?_
    exact x_iret (pc := 10) B hR dJ0_length_8abf5_10 (xzI _) h
  · exact absurd h (by simp)
def fJ0_isLatin1_aae02 (a0 : Nat) (w : XW) : Option (Int32 × XW) := if xis' a0 = true then
  if xis' a0 = true then
    some ((1 : Int32), w)
  else none
  else none
theorem iJ0_isLatin1_aae02 {a0 : Nat} {w : XW} {R9 : (Int32 × XW)} (h : fJ0_isLatin1_aae02 a0 w = some R9) : xis' a0 = true := by
  unfold fJ0_isLatin1_aae02 at h
  rcases xite h with ⟨hc, h⟩ | ⟨hc, h⟩
  · exact hc
  · exact absurd h (by simp)
theorem np_J0_isLatin1_aae02 : (parseMethodDescriptor yJ0_isLatin1_aae02.desc).map (fun d => d.parameters.length) = some 0 := by decide +kernel
theorem hy_J0_isLatin1_aae02 : yJ0_isLatin1_aae02.cls ≠ "java/lang/invoke/MethodHandle" ∧ yJ0_isLatin1_aae02.cls ≠ "java/lang/invoke/VarHandle" := ⟨by decide +kernel, by decide +kernel⟩
set_option maxRecDepth 20000 in
theorem eJ0_isLatin1_aae02 {cx : CX} {a0 : Nat} {w : XW} {R9 : (Int32 × XW)} (h : fJ0_isLatin1_aae02 a0 w = some R9) : Ct yJ0_isLatin1_aae02 cJ0_isLatin1_aae02 1 (some .boolean) 0 0 cx [.ref a0] w (some (.int R9.1)) R9.2 := by
  refine Ct_of (by decide +kernel) (Nat.le_of_ble_eq_true rfl) (fun K B hR => ?_)
  rw [fJ0_isLatin1_aae02] at h
  show Wx K cx 1 w.length 0 [(0, .ref a0)] [] w
  rcases xite h with ⟨hc, h⟩ | ⟨hc, h⟩
  · skip
    refine x_gsC (pc := 0) B dJ0_isLatin1_aae02_0 xt_512 ?_
    refine x_if_eq_f (pc := 3) B 17 dJ0_isLatin1_aae02_3 (by decide) (by decide) ?_
    refine x_aload_n (pc := 6) B 0 dJ0_isLatin1_aae02_6 rfl rfl ?_
    rcases xite h with ⟨hc, h⟩ | ⟨hc, h⟩
    · refine x_scod (pc := 7) B dJ0_isLatin1_aae02_7 xt_901 hc ?_
      refine x_if_ne_f (pc := 10) B 17 dJ0_isLatin1_aae02_10 (by decide) (by decide) ?_
      refine x_iconst (pc := 13) B dJ0_isLatin1_aae02_13 xk_iconst_1 ?_
      refine x_goto (tgt := 18) (pc := 14) B dJ0_isLatin1_aae02_14 (by decide) ?_
      exact x_iret (pc := 18) B hR dJ0_isLatin1_aae02_18 xz1 h
    · exact absurd h (by simp)
  · exact absurd h (by simp)
def fJ2_length_9d52b (a0 : Nat) (w : XW) : Option (Int32 × XW) :=
  (xbl a0).bind fun v1 =>
  some ((v1 >>> ((1 : Int32) &&& 31)), w)
theorem np_J2_length_9d52b : (parseMethodDescriptor yJ2_length_9d52b.desc).map (fun d => d.parameters.length) = some 1 := by decide +kernel
theorem hy_J2_length_9d52b : yJ2_length_9d52b.cls ≠ "java/lang/invoke/MethodHandle" ∧ yJ2_length_9d52b.cls ≠ "java/lang/invoke/VarHandle" := ⟨by decide +kernel, by decide +kernel⟩
set_option maxRecDepth 20000 in
theorem eJ2_length_9d52b {cx : CX} {a0 : Nat} {w : XW} {R9 : (Int32 × XW)} (h : fJ2_length_9d52b a0 w = some R9) : Ct yJ2_length_9d52b cJ2_length_9d52b 1 (some .int) 0 0 cx [.ref a0] w (some (.int R9.1)) R9.2 := by
  refine Ct_of (by decide +kernel) (Nat.le_of_ble_eq_true rfl) (fun K B hR => ?_)
  rw [fJ2_length_9d52b] at h
  show Wx K cx 1 w.length 0 [(0, .ref a0)] [] w
  refine x_aload_n (pc := 0) B 0 dJ2_length_9d52b_0 rfl rfl ?_
  obtain ⟨v1, hv, h⟩ := xbind h
  refine x_blen (pc := 1) B dJ2_length_9d52b_1 hv ?_
  refine x_iconst (pc := 2) B dJ2_length_9d52b_2 xk_iconst_1 ?_
  refine x_ishr (pc := 3) B dJ2_length_9d52b_3 ?_
  exact x_iret (pc := 4) B hR dJ2_length_9d52b_4 (xzI _) h
def fJ3_checkIndex_8e157 (i0 : Int32) (i1 : Int32) (w : XW) : Option (Int32 × XW) :=
  if i0 < (0 : Int32) then
    none
  else
  if i0 < i1 then
    some (i0, w)
  else
  none
theorem np_J3_checkIndex_8e157 : (parseMethodDescriptor yJ3_checkIndex_8e157.desc).map (fun d => d.parameters.length) = some 3 := by decide +kernel
theorem hy_J3_checkIndex_8e157 : yJ3_checkIndex_8e157.cls ≠ "java/lang/invoke/MethodHandle" ∧ yJ3_checkIndex_8e157.cls ≠ "java/lang/invoke/VarHandle" := ⟨by decide +kernel, by decide +kernel⟩
set_option maxRecDepth 20000 in
theorem eJ3_checkIndex_8e157 {cx : CX} {i0 : Int32} {i1 : Int32} (v2 : Value) (hv2 : Value.category v2 = 1) {w : XW} {R9 : (Int32 × XW)} (h : fJ3_checkIndex_8e157 i0 i1 w = some R9) : Ct yJ3_checkIndex_8e157 cJ3_checkIndex_8e157 3 (some .int) 0 0 cx [.int i0, .int i1, v2] w (some (.int R9.1)) R9.2 := by
  refine Ct_of (by decide +kernel) (xlg3 hv2 _ _) (fun K B hR => ?_)
  rw [fJ3_checkIndex_8e157] at h
  show Wx K cx 3 w.length 0 [(0, .int i0), (1, .int i1), (2, v2)] [] w
  refine x_iload_n (pc := 0) B 0 dJ3_checkIndex_8e157_0 rfl rfl ?_
  rcases xite h with ⟨hc, h⟩ | ⟨hc, h⟩
  · refine x_if_lt_t (tgt := 9) (pc := 1) B dJ3_checkIndex_8e157_1 (by decide) hc ?_
    exact absurd h (by simp)
  · refine x_if_lt_f (pc := 1) B 9 dJ3_checkIndex_8e157_1 (by decide) hc ?_
    refine x_iload_n (pc := 4) B 0 dJ3_checkIndex_8e157_4 rfl rfl ?_
    refine x_iload_n (pc := 5) B 1 dJ3_checkIndex_8e157_5 rfl rfl ?_
    rcases xite h with ⟨hc, h⟩ | ⟨hc, h⟩
    · refine x_icmp_lt_t (tgt := 16) (pc := 6) B dJ3_checkIndex_8e157_6 (by decide) hc ?_
      refine x_iload_n (pc := 16) B 0 dJ3_checkIndex_8e157_16 rfl rfl ?_
      exact x_iret (pc := 17) B hR dJ3_checkIndex_8e157_17 (xzI _) h
    · refine x_icmp_lt_f (pc := 6) B 16 dJ3_checkIndex_8e157_6 (by decide) hc ?_
      exact absurd h (by simp)
def fJ0_checkIndex_df160 (i0 : Int32) (i1 : Int32) (w : XW) : Option XW :=
  (fJ3_checkIndex_8e157 i0 i1 w).bind fun q1 =>
  some q1.2
theorem np_J0_checkIndex_df160 : (parseMethodDescriptor yJ0_checkIndex_df160.desc).map (fun d => d.parameters.length) = some 2 := by decide +kernel
theorem hy_J0_checkIndex_df160 : yJ0_checkIndex_df160.cls ≠ "java/lang/invoke/MethodHandle" ∧ yJ0_checkIndex_df160.cls ≠ "java/lang/invoke/VarHandle" := ⟨by decide +kernel, by decide +kernel⟩
set_option maxRecDepth 20000 in
theorem eJ0_checkIndex_df160 {cx : CX} {i0 : Int32} {i1 : Int32} {w : XW} {R9 : XW} (h : fJ0_checkIndex_df160 i0 i1 w = some R9) : Ct yJ0_checkIndex_df160 cJ0_checkIndex_df160 2 none 1 22 cx [.int i0, .int i1] w none R9 := by
  refine Ct_of (by decide +kernel) (Nat.le_of_ble_eq_true rfl) (fun K B hR => ?_)
  rw [fJ0_checkIndex_df160] at h
  show Wx K cx 2 w.length 0 [(0, .int i0), (1, .int i1)] [] w
  refine x_iload_n (pc := 0) B 0 dJ0_checkIndex_df160_0 rfl rfl ?_
  refine x_iload_n (pc := 1) B 1 dJ0_checkIndex_df160_1 rfl rfl ?_
  refine x_gsF (pc := 2) B dJ0_checkIndex_df160_2 xt_528 (fun v99 hv99 => ?_)
  obtain ⟨q1, hq, h⟩ := xbind h
  refine x_callS1 (st := []) (pc := 5) B dJ0_checkIndex_df160_5 (eJ3_checkIndex_8e157 v99 hv99 hq) xt_532 xt_64 np_J3_checkIndex_8e157 hy_J3_checkIndex_8e157 (Nat.le_of_ble_eq_true rfl) (Nat.le_of_ble_eq_true rfl) (Nat.le_of_ble_eq_true rfl) xt_531 xt_530 rfl ?_
  refine x_pop (pc := 8) B dJ0_checkIndex_df160_8 rfl ?_
  exact x_vret (pc := 9) B hR dJ0_checkIndex_df160_9 h
def fJ2_checkIndex_2214a (i0 : Int32) (a1 : Nat) (w : XW) : Option XW :=
  (fJ2_length_9d52b a1 w).bind fun q1 =>
  (fJ0_checkIndex_df160 i0 q1.1 q1.2).bind fun q2 =>
  some q2
theorem np_J2_checkIndex_2214a : (parseMethodDescriptor yJ2_checkIndex_2214a.desc).map (fun d => d.parameters.length) = some 2 := by decide +kernel
theorem hy_J2_checkIndex_2214a : yJ2_checkIndex_2214a.cls ≠ "java/lang/invoke/MethodHandle" ∧ yJ2_checkIndex_2214a.cls ≠ "java/lang/invoke/VarHandle" := ⟨by decide +kernel, by decide +kernel⟩
set_option maxRecDepth 20000 in
theorem eJ2_checkIndex_2214a {cx : CX} {i0 : Int32} {a1 : Nat} {w : XW} {R9 : XW} (h : fJ2_checkIndex_2214a i0 a1 w = some R9) : Ct yJ2_checkIndex_2214a cJ2_checkIndex_2214a 2 none 2 43 cx [.int i0, .ref a1] w none R9 := by
  refine Ct_of (by decide +kernel) (Nat.le_of_ble_eq_true rfl) (fun K B hR => ?_)
  rw [fJ2_checkIndex_2214a] at h
  show Wx K cx 2 w.length 0 [(0, .int i0), (1, .ref a1)] [] w
  refine x_iload_n (pc := 0) B 0 dJ2_checkIndex_2214a_0 rfl rfl ?_
  refine x_aload_n (pc := 1) B 1 dJ2_checkIndex_2214a_1 rfl rfl ?_
  obtain ⟨q1, hq, h⟩ := xbind h
  refine x_callS1 (st := [.int i0]) (pc := 2) B dJ2_checkIndex_2214a_2 (eJ2_length_9d52b hq) xt_541 xt_65 np_J2_length_9d52b hy_J2_length_9d52b (Nat.le_of_ble_eq_true rfl) (Nat.le_of_ble_eq_true rfl) (Nat.le_of_ble_eq_true rfl) xt_540 xt_539 rfl ?_
  obtain ⟨q2, hq, h⟩ := xbind h
  refine x_callS0 (st := []) (pc := 5) B dJ2_checkIndex_2214a_5 (eJ0_checkIndex_df160 hq) xt_527 xt_62 np_J0_checkIndex_df160 hy_J0_checkIndex_df160 (Nat.le_of_ble_eq_true rfl) (Nat.le_of_ble_eq_true rfl) (Nat.le_of_ble_eq_true rfl) xt_526 xt_542 rfl ?_
  exact x_vret (pc := 8) B hR dJ2_checkIndex_2214a_8 h
def fJ2_getChar_3b067 (a0 : Nat) (i1 : Int32) (w : XW) : Option (Int32 × XW) :=
  none
theorem np_J2_getChar_3b067 : (parseMethodDescriptor yJ2_getChar_3b067.desc).map (fun d => d.parameters.length) = some 2 := by decide +kernel
theorem hy_J2_getChar_3b067 : yJ2_getChar_3b067.cls ≠ "java/lang/invoke/MethodHandle" ∧ yJ2_getChar_3b067.cls ≠ "java/lang/invoke/VarHandle" := ⟨by decide +kernel, by decide +kernel⟩
set_option maxRecDepth 20000 in
theorem eJ2_getChar_3b067 {cx : CX} {a0 : Nat} {i1 : Int32} {w : XW} {R9 : (Int32 × XW)} (h : fJ2_getChar_3b067 a0 i1 w = some R9) : Ct yJ2_getChar_3b067 cJ2_getChar_3b067 2 (some .char) 0 0 cx [.ref a0, .int i1] w (some (.int R9.1)) R9.2 := by
  refine Ct_of (by decide +kernel) (Nat.le_of_ble_eq_true rfl) (fun K B hR => ?_)
  rw [fJ2_getChar_3b067] at h
  show Wx K cx 2 w.length 0 [(0, .ref a0), (1, .int i1)] [] w
  exact absurd h (by simp)
def fJ2_charAt_3b067 (a0 : Nat) (i1 : Int32) (w : XW) : Option (Int32 × XW) :=
  (fJ2_checkIndex_2214a i1 a0 w).bind fun q1 =>
  (fJ2_getChar_3b067 a0 i1 q1).bind fun q2 =>
  if vp_nar .char q2.1 = q2.1 then some (q2.1, q2.2) else none
theorem np_J2_charAt_3b067 : (parseMethodDescriptor yJ2_charAt_3b067.desc).map (fun d => d.parameters.length) = some 2 := by decide +kernel
theorem hy_J2_charAt_3b067 : yJ2_charAt_3b067.cls ≠ "java/lang/invoke/MethodHandle" ∧ yJ2_charAt_3b067.cls ≠ "java/lang/invoke/VarHandle" := ⟨by decide +kernel, by decide +kernel⟩
set_option maxRecDepth 20000 in
theorem eJ2_charAt_3b067 {cx : CX} {a0 : Nat} {i1 : Int32} {w : XW} {R9 : (Int32 × XW)} (h : fJ2_charAt_3b067 a0 i1 w = some R9) : Ct yJ2_charAt_3b067 cJ2_charAt_3b067 2 (some .char) 3 64 cx [.ref a0, .int i1] w (some (.int R9.1)) R9.2 := by
  refine Ct_of (by decide +kernel) (Nat.le_of_ble_eq_true rfl) (fun K B hR => ?_)
  rw [fJ2_charAt_3b067] at h
  show Wx K cx 2 w.length 0 [(0, .ref a0), (1, .int i1)] [] w
  refine x_iload_n (pc := 0) B 1 dJ2_charAt_3b067_0 rfl rfl ?_
  refine x_aload_n (pc := 1) B 0 dJ2_charAt_3b067_1 rfl rfl ?_
  obtain ⟨q1, hq, h⟩ := xbind h
  refine x_callS0 (st := []) (pc := 2) B dJ2_charAt_3b067_2 (eJ2_checkIndex_2214a hq) xt_538 xt_65 np_J2_checkIndex_2214a hy_J2_checkIndex_2214a (Nat.le_of_ble_eq_true rfl) (Nat.le_of_ble_eq_true rfl) (Nat.le_of_ble_eq_true rfl) xt_537 xt_536 rfl ?_
  refine x_aload_n (pc := 5) B 0 dJ2_charAt_3b067_5 rfl rfl ?_
  refine x_iload_n (pc := 6) B 1 dJ2_charAt_3b067_6 rfl rfl ?_
  obtain ⟨q2, hq, h⟩ := xbind h
  refine x_callS1 (st := []) (pc := 7) B dJ2_charAt_3b067_7 (eJ2_getChar_3b067 hq) xt_545 xt_65 np_J2_getChar_3b067 hy_J2_getChar_3b067 (Nat.le_of_ble_eq_true rfl) (Nat.le_of_ble_eq_true rfl) (Nat.le_of_ble_eq_true rfl) xt_544 xt_543 rfl ?_
  rcases xite h with ⟨hc, h⟩ | ⟨hc, h⟩
  · exact x_iret (pc := 10) B hR dJ2_charAt_3b067_10 (xnar (Or.inr (Or.inl rfl)) hc) h
  · exact absurd h (by simp)
def fJ1_charAt_3b067 (a0 : Nat) (i1 : Int32) (w : XW) : Option (Int32 × XW) :=
  (xbl a0).bind fun v1 =>
  (fJ0_checkIndex_df160 i1 v1 w).bind fun q2 =>
  (xbb a0 i1).bind fun v3 =>
  if vp_nar .char ((((v3 &&& (255 : Int32))).toUInt32 % 65536).toInt32) = ((((v3 &&& (255 : Int32))).toUInt32 % 65536).toInt32) then some (((((v3 &&& (255 : Int32))).toUInt32 % 65536).toInt32), q2) else none
theorem np_J1_charAt_3b067 : (parseMethodDescriptor yJ1_charAt_3b067.desc).map (fun d => d.parameters.length) = some 2 := by decide +kernel
theorem hy_J1_charAt_3b067 : yJ1_charAt_3b067.cls ≠ "java/lang/invoke/MethodHandle" ∧ yJ1_charAt_3b067.cls ≠ "java/lang/invoke/VarHandle" := ⟨by decide +kernel, by decide +kernel⟩
set_option maxRecDepth 20000 in
theorem eJ1_charAt_3b067 {cx : CX} {a0 : Nat} {i1 : Int32} {w : XW} {R9 : (Int32 × XW)} (h : fJ1_charAt_3b067 a0 i1 w = some R9) : Ct yJ1_charAt_3b067 cJ1_charAt_3b067 2 (some .char) 2 43 cx [.ref a0, .int i1] w (some (.int R9.1)) R9.2 := by
  refine Ct_of (by decide +kernel) (Nat.le_of_ble_eq_true rfl) (fun K B hR => ?_)
  rw [fJ1_charAt_3b067] at h
  show Wx K cx 2 w.length 0 [(0, .ref a0), (1, .int i1)] [] w
  refine x_iload_n (pc := 0) B 1 dJ1_charAt_3b067_0 rfl rfl ?_
  refine x_aload_n (pc := 1) B 0 dJ1_charAt_3b067_1 rfl rfl ?_
  obtain ⟨v1, hv, h⟩ := xbind h
  refine x_blen (pc := 2) B dJ1_charAt_3b067_2 hv ?_
  obtain ⟨q2, hq, h⟩ := xbind h
  refine x_callS0 (st := []) (pc := 3) B dJ1_charAt_3b067_3 (eJ0_checkIndex_df160 hq) xt_527 xt_62 np_J0_checkIndex_df160 hy_J0_checkIndex_df160 (Nat.le_of_ble_eq_true rfl) (Nat.le_of_ble_eq_true rfl) (Nat.le_of_ble_eq_true rfl) xt_526 xt_525 rfl ?_
  refine x_aload_n (pc := 6) B 0 dJ1_charAt_3b067_6 rfl rfl ?_
  refine x_iload_n (pc := 7) B 1 dJ1_charAt_3b067_7 rfl rfl ?_
  obtain ⟨v3, hv, h⟩ := xbind h
  refine x_bald (pc := 8) B dJ1_charAt_3b067_8 hv ?_
  refine x_sipush (pc := 9) B dJ1_charAt_3b067_9 xk_sipush_255 ?_
  refine x_iand (pc := 12) B dJ1_charAt_3b067_12 ?_
  refine x_i2c (pc := 13) B dJ1_charAt_3b067_13 ?_
  rcases xite h with ⟨hc, h⟩ | ⟨hc, h⟩
  · exact x_iret (pc := 14) B hR dJ1_charAt_3b067_14 (xnar (Or.inr (Or.inl rfl)) hc) h
  · exact absurd h (by simp)
def fJ0_charAt_5068e (a0 : Nat) (i1 : Int32) (w : XW) : Option (Int32 × XW) := if xis' a0 = true then
  (fJ0_isLatin1_aae02 a0 w).bind fun q1 =>
  if q1.1 = (0 : Int32) then
    (xsv a0).bind fun v2 =>
    (fJ2_charAt_3b067 v2 i1 q1.2).bind fun q3 =>
    if vp_nar .char q3.1 = q3.1 then some (q3.1, q3.2) else none
  else
  (xsv a0).bind fun v4 =>
  (fJ1_charAt_3b067 v4 i1 q1.2).bind fun q5 =>
  if vp_nar .char q5.1 = q5.1 then some (q5.1, q5.2) else none
  else none
theorem iJ0_charAt_5068e {a0 : Nat} {i1 : Int32} {w : XW} {R9 : (Int32 × XW)} (h : fJ0_charAt_5068e a0 i1 w = some R9) : xis' a0 = true := by
  unfold fJ0_charAt_5068e at h
  rcases xite h with ⟨hc, h⟩ | ⟨hc, h⟩
  · exact hc
  · exact absurd h (by simp)
theorem np_J0_charAt_5068e : (parseMethodDescriptor yJ0_charAt_5068e.desc).map (fun d => d.parameters.length) = some 1 := by decide +kernel
theorem hy_J0_charAt_5068e : yJ0_charAt_5068e.cls ≠ "java/lang/invoke/MethodHandle" ∧ yJ0_charAt_5068e.cls ≠ "java/lang/invoke/VarHandle" := ⟨by decide +kernel, by decide +kernel⟩
set_option maxRecDepth 20000 in
theorem eJ0_charAt_5068e {cx : CX} {a0 : Nat} {i1 : Int32} {w : XW} {R9 : (Int32 × XW)} (h : fJ0_charAt_5068e a0 i1 w = some R9) : Ct yJ0_charAt_5068e cJ0_charAt_5068e 2 (some .char) 4 85 cx [.ref a0, .int i1] w (some (.int R9.1)) R9.2 := by
  refine Ct_of (by decide +kernel) (Nat.le_of_ble_eq_true rfl) (fun K B hR => ?_)
  rw [fJ0_charAt_5068e] at h
  show Wx K cx 2 w.length 0 [(0, .ref a0), (1, .int i1)] [] w
  rcases xite h with ⟨hc, h⟩ | ⟨hc, h⟩
  · skip
    refine x_aload_n (pc := 0) B 0 dJ0_charAt_5068e_0 rfl rfl ?_
    obtain ⟨q1, hq, h⟩ := xbind h
    refine x_callVs1 (st := []) (pc := 1) B dJ0_charAt_5068e_1 (eJ0_isLatin1_aae02 hq) xt_521 xt_62 np_J0_isLatin1_aae02 hy_J0_isLatin1_aae02 (Nat.le_of_ble_eq_true rfl) (Nat.le_of_ble_eq_true rfl) (Nat.le_of_ble_eq_true rfl) xt_519 xt_520 xt_518 rfl (iJ0_isLatin1_aae02 hq) rfl ?_
    rcases xite h with ⟨hc, h⟩ | ⟨hc, h⟩
    · refine x_if_eq_t (tgt := 16) (pc := 4) B dJ0_charAt_5068e_4 (by decide) hc ?_
      refine x_aload_n (pc := 16) B 0 dJ0_charAt_5068e_16 rfl rfl ?_
      obtain ⟨v2, hv, h⟩ := xbind h
      refine x_sval (pc := 17) B dJ0_charAt_5068e_17 xt_900 hv ?_
      refine x_iload_n (pc := 20) B 1 dJ0_charAt_5068e_20 rfl rfl ?_
      obtain ⟨q3, hq, h⟩ := xbind h
      refine x_callS1 (st := []) (pc := 21) B dJ0_charAt_5068e_21 (eJ2_charAt_3b067 hq) xt_535 xt_65 np_J2_charAt_3b067 hy_J2_charAt_3b067 (Nat.le_of_ble_eq_true rfl) (Nat.le_of_ble_eq_true rfl) (Nat.le_of_ble_eq_true rfl) xt_534 xt_533 rfl ?_
      rcases xite h with ⟨hc, h⟩ | ⟨hc, h⟩
      · exact x_iret (pc := 24) B hR dJ0_charAt_5068e_24 (xnar (Or.inr (Or.inl rfl)) hc) h
      · exact absurd h (by simp)
    · refine x_if_eq_f (pc := 4) B 16 dJ0_charAt_5068e_4 (by decide) hc ?_
      refine x_aload_n (pc := 7) B 0 dJ0_charAt_5068e_7 rfl rfl ?_
      obtain ⟨v4, hv, h⟩ := xbind h
      refine x_sval (pc := 8) B dJ0_charAt_5068e_8 xt_900 hv ?_
      refine x_iload_n (pc := 11) B 1 dJ0_charAt_5068e_11 rfl rfl ?_
      obtain ⟨q5, hq, h⟩ := xbind h
      refine x_callS1 (st := []) (pc := 12) B dJ0_charAt_5068e_12 (eJ1_charAt_3b067 hq) xt_524 xt_63 np_J1_charAt_3b067 hy_J1_charAt_3b067 (Nat.le_of_ble_eq_true rfl) (Nat.le_of_ble_eq_true rfl) (Nat.le_of_ble_eq_true rfl) xt_523 xt_522 rfl ?_
      rcases xite h with ⟨hc, h⟩ | ⟨hc, h⟩
      · exact x_iret (pc := 15) B hR dJ0_charAt_5068e_15 (xnar (Or.inr (Or.inl rfl)) hc) h
      · exact absurd h (by simp)
  · exact absurd h (by simp)
def fX3_isWithin (i0 : Int32) (i1 : Int32) (w : XW) : Option (Int32 × XW) :=
  if i0 < (0 : Int32) then
    some ((0 : Int32), w)
  else
  if i1 ≤ i0 then
    some ((0 : Int32), w)
  else
  some ((1 : Int32), w)
theorem np_X3_isWithin : (parseMethodDescriptor yX3_isWithin.desc).map (fun d => d.parameters.length) = some 2 := by decide +kernel
theorem hy_X3_isWithin : yX3_isWithin.cls ≠ "java/lang/invoke/MethodHandle" ∧ yX3_isWithin.cls ≠ "java/lang/invoke/VarHandle" := ⟨by decide +kernel, by decide +kernel⟩
set_option maxRecDepth 20000 in
theorem eX3_isWithin {cx : CX} {i0 : Int32} {i1 : Int32} {w : XW} {R9 : (Int32 × XW)} (h : fX3_isWithin i0 i1 w = some R9) : Ct yX3_isWithin cX3_isWithin 2 (some .boolean) 0 0 cx [.int i0, .int i1] w (some (.int R9.1)) R9.2 := by
  refine Ct_of (by decide +kernel) (Nat.le_of_ble_eq_true rfl) (fun K B hR => ?_)
  rw [fX3_isWithin] at h
  show Wx K cx 2 w.length 0 [(0, .int i0), (1, .int i1)] [] w
  refine x_iload_n (pc := 0) B 0 dX3_isWithin_0 rfl rfl ?_
  rcases xite h with ⟨hc, h⟩ | ⟨hc, h⟩
  · refine x_if_lt_t (tgt := 13) (pc := 1) B dX3_isWithin_1 (by decide) hc ?_
    refine x_iconst (pc := 13) B dX3_isWithin_13 xk_iconst_0 ?_
    exact x_iret (pc := 14) B hR dX3_isWithin_14 xz0 h
  · refine x_if_lt_f (pc := 1) B 13 dX3_isWithin_1 (by decide) hc ?_
    refine x_iload_n (pc := 4) B 0 dX3_isWithin_4 rfl rfl ?_
    refine x_iload_n (pc := 5) B 1 dX3_isWithin_5 rfl rfl ?_
    rcases xite h with ⟨hc, h⟩ | ⟨hc, h⟩
    · refine x_icmp_ge_t (tgt := 13) (pc := 6) B dX3_isWithin_6 (by decide) hc ?_
      refine x_iconst (pc := 13) B dX3_isWithin_13 xk_iconst_0 ?_
      exact x_iret (pc := 14) B hR dX3_isWithin_14 xz0 h
    · refine x_icmp_ge_f (pc := 6) B 13 dX3_isWithin_6 (by decide) hc ?_
      refine x_iconst (pc := 9) B dX3_isWithin_9 xk_iconst_1 ?_
      refine x_goto (tgt := 14) (pc := 10) B dX3_isWithin_10 (by decide) ?_
      exact x_iret (pc := 14) B hR dX3_isWithin_14 xz1 h
def fX3_has (i0 : Int32) (i1 : Int32) (w : XW) : Option (Int32 × XW) :=
  if ((i0 >>> (i1 &&& 31)) &&& (1 : Int32)) = (1 : Int32) then
    some ((1 : Int32), w)
  else
  some ((0 : Int32), w)
theorem np_X3_has : (parseMethodDescriptor yX3_has.desc).map (fun d => d.parameters.length) = some 2 := by decide +kernel
theorem hy_X3_has : yX3_has.cls ≠ "java/lang/invoke/MethodHandle" ∧ yX3_has.cls ≠ "java/lang/invoke/VarHandle" := ⟨by decide +kernel, by decide +kernel⟩
set_option maxRecDepth 20000 in
theorem eX3_has {cx : CX} {i0 : Int32} {i1 : Int32} {w : XW} {R9 : (Int32 × XW)} (h : fX3_has i0 i1 w = some R9) : Ct yX3_has cX3_has 2 (some .boolean) 0 0 cx [.int i0, .int i1] w (some (.int R9.1)) R9.2 := by
  refine Ct_of (by decide +kernel) (Nat.le_of_ble_eq_true rfl) (fun K B hR => ?_)
  rw [fX3_has] at h
  show Wx K cx 2 w.length 0 [(0, .int i0), (1, .int i1)] [] w
  refine x_iload_n (pc := 0) B 0 dX3_has_0 rfl rfl ?_
  refine x_iload_n (pc := 1) B 1 dX3_has_1 rfl rfl ?_
  refine x_ishr (pc := 2) B dX3_has_2 ?_
  refine x_iconst (pc := 3) B dX3_has_3 xk_iconst_1 ?_
  refine x_iand (pc := 4) B dX3_has_4 ?_
  refine x_iconst (pc := 5) B dX3_has_5 xk_iconst_1 ?_
  rcases xite h with ⟨hc, h⟩ | ⟨hc, h⟩
  · refine x_icmp_ne_f (pc := 6) B 13 dX3_has_6 (by decide) hc ?_
    refine x_iconst (pc := 9) B dX3_has_9 xk_iconst_1 ?_
    refine x_goto (tgt := 14) (pc := 10) B dX3_has_10 (by decide) ?_
    exact x_iret (pc := 14) B hR dX3_has_14 xz1 h
  · refine x_icmp_ne_t (tgt := 13) (pc := 6) B dX3_has_6 (by decide) hc ?_
    refine x_iconst (pc := 13) B dX3_has_13 xk_iconst_0 ?_
    exact x_iret (pc := 14) B hR dX3_has_14 xz0 h
