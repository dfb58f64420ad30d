def fX2_addPlans_45 : Nat → Nat → Int32 → Int32 → Int32 → Int32 → Int32 → XW → Option XW
  | 0, _, _, _, _, _, _, _ => none
  | g + 1, a0, i2, i3, i4, i5, i6, w =>
    if (27 : Int32) ≤ i6 then
      some w
    else
    (fX3_has i3 (i6 / (9 : Int32)) w).bind fun q9 =>
    if q9.1 = (0 : Int32) then
      fX2_addPlans_45 g a0 i2 i3 i4 i5 (i6 + (1 : Int32)) q9.2
    else
    (fX3_has i4 ((i6 / (3 : Int32)) - (i6 / (3 : Int32)) / (3 : Int32) * (3 : Int32)) q9.2).bind fun q10 =>
    if q10.1 = (0 : Int32) then
      fX2_addPlans_45 g a0 i2 i3 i4 i5 (i6 + (1 : Int32)) q10.2
    else
    (fX3_has i5 (i6 - i6 / (3 : Int32) * (3 : Int32)) q10.2).bind fun q11 =>
    if q11.1 = (0 : Int32) then
      fX2_addPlans_45 g a0 i2 i3 i4 i5 (i6 + (1 : Int32)) q11.2
    else
    (xgR q11.2 a0 2 0).bind fun v12 =>
    (fX0_takePlan v12 (i2 + i6) q11.2).bind fun q13 =>
    (xgR q13 a0 2 2).bind fun v14 =>
    (xaI q13 v14 (0 : Int32)).bind fun v15 =>
    (xgR q13 a0 2 0).bind fun v16 =>
    (fX0_lowestBetterType v16 q13).bind fun q17 =>
    if q17.1 = (-6 : Int32) then
      (xgR q17.2 a0 2 1).bind fun v18 =>
      (xaL q17.2 v18).bind fun v19 =>
      (fX3_isWithin v15 v19 q17.2).bind fun q20 =>
      if q20.1 = (0 : Int32) then
        fX2_addPlans_45 g a0 i2 i3 i4 i5 (i6 + (1 : Int32)) q20.2
      else
      (xgR q20.2 a0 2 1).bind fun v21 =>
      (xsI q20.2 v21 v15 (i2 + i6)).bind fun w22 =>
      (xgR w22 a0 2 2).bind fun v23 =>
      (xaI w22 v23 (0 : Int32)).bind fun v24 =>
      (xsI w22 v23 (0 : Int32) (v24 + (1 : Int32))).bind fun w25 =>
      fX2_addPlans_45 g a0 i2 i3 i4 i5 (i6 + (1 : Int32)) w25
    else
    fX2_addPlans_45 g a0 i2 i3 i4 i5 (i6 + (1 : Int32)) q17.2
set_option maxRecDepth 20000 in
theorem pX2_addPlans_45 {K : KX} {cx : CX} {nn : Nat} {R9 : XW} (B : XB K cx RX2 cX2_addPlans 8 nn 4 100) (hR : XR K cx nn none none R9) : ∀ (g : Nat) (a0 : Nat) (i2 : Int32) (i3 : Int32) (i4 : Int32) (i5 : Int32) (i6 : Int32) (w : XW), fX2_addPlans_45 g a0 i2 i3 i4 i5 i6 w = some R9 → Wx K cx 8 nn 45 [(0, .ref a0), (2, .int i2), (3, .int i3), (4, .int i4), (5, .int i5), (6, .int i6)] [] w := by
  intro g
  induction g with
  | zero =>
    intro a0 i2 i3 i4 i5 i6 w h
    exact absurd (show (none : Option XW) = some R9 from h) (by simp)
  | succ g ih =>
    intro a0 i2 i3 i4 i5 i6 w h
    rw [fX2_addPlans_45] at h
    refine x_iload (pc := 45) B 5 dX2_addPlans_45 rfl ?_
    refine x_bipush (pc := 47) B dX2_addPlans_47 xk_bipush_27 ?_
    rcases xite h with ⟨hc, h⟩ | ⟨hc, h⟩
    · refine x_icmp_ge_t (tgt := 164) (pc := 49) B dX2_addPlans_49 (by decide) hc ?_
      exact x_vret (pc := 164) B hR dX2_addPlans_164 h
    · refine x_icmp_ge_f (pc := 49) B 164 dX2_addPlans_49 (by decide) hc ?_
      refine x_iload_n (pc := 52) B 2 dX2_addPlans_52 rfl rfl ?_
      refine x_iload (pc := 53) B 5 dX2_addPlans_53 rfl ?_
      refine x_bipush (pc := 55) B dX2_addPlans_55 xk_bipush_9 ?_
      refine x_idiv (pc := 57) B dX2_addPlans_57 (by decide) ?_
      obtain ⟨q9, hq, h⟩ := xbind h
      refine x_callSN1 (st := []) (pc := 58) B dX2_addPlans_58 (eX3_has hq) xt_265 xt_53 np_X3_has hy_X3_has (Nat.le_of_ble_eq_true rfl) (Nat.le_of_ble_eq_true rfl) (Nat.le_of_ble_eq_true rfl) xt_264 (List.mem_of_getElem? (i := 2) rfl) rfl ?_
      rcases xite h with ⟨hc, h⟩ | ⟨hc, h⟩
      · refine x_if_eq_t (tgt := 158) (pc := 61) B dX2_addPlans_61 (by decide) hc ?_
        refine x_iinc (L1 := [(6, .int (i6 + (1 : Int32))), (0, .ref a0), (2, .int i2), (3, .int i3), (4, .int i4), (5, .int i5)]) (pc := 158) B 5 dX2_addPlans_158 rfl (congrArg _ xk_iconst_1) (by decide) rfl ?_
        refine x_goto (tgt := 45) (pc := 161) B dX2_addPlans_161 (by decide) ?_
        refine x_sub (L1 := [(0, .ref a0), (2, .int i2), (3, .int i3), (4, .int i4), (5, .int i5), (6, .int (i6 + (1 : Int32)))]) [1, 2, 3, 4, 5, 0] rfl ?_
        exact ih a0 i2 i3 i4 i5 (i6 + (1 : Int32)) q9.2 h
      · refine x_if_eq_f (pc := 61) B 158 dX2_addPlans_61 (by decide) hc ?_
        refine x_iload (pc := 64) B 3 dX2_addPlans_64 rfl ?_
        refine x_iload (pc := 66) B 5 dX2_addPlans_66 rfl ?_
        refine x_iconst (pc := 68) B dX2_addPlans_68 xk_iconst_3 ?_
        refine x_idiv (pc := 69) B dX2_addPlans_69 (by decide) ?_
        refine x_iconst (pc := 70) B dX2_addPlans_70 xk_iconst_3 ?_
        refine x_irem (pc := 71) B dX2_addPlans_71 (by decide) ?_
        obtain ⟨q10, hq, h⟩ := xbind h
        refine x_callSN1 (st := []) (pc := 72) B dX2_addPlans_72 (eX3_has hq) xt_265 xt_53 np_X3_has hy_X3_has (Nat.le_of_ble_eq_true rfl) (Nat.le_of_ble_eq_true rfl) (Nat.le_of_ble_eq_true rfl) xt_264 (List.mem_of_getElem? (i := 2) rfl) rfl ?_
        rcases xite h with ⟨hc, h⟩ | ⟨hc, h⟩
        · refine x_if_eq_t (tgt := 158) (pc := 75) B dX2_addPlans_75 (by decide) hc ?_
          refine x_iinc (L1 := [(6, .int (i6 + (1 : Int32))), (0, .ref a0), (2, .int i2), (3, .int i3), (4, .int i4), (5, .int i5)]) (pc := 158) B 5 dX2_addPlans_158 rfl (congrArg _ xk_iconst_1) (by decide) rfl ?_
          refine x_goto (tgt := 45) (pc := 161) B dX2_addPlans_161 (by decide) ?_
          refine x_sub (L1 := [(0, .ref a0), (2, .int i2), (3, .int i3), (4, .int i4), (5, .int i5), (6, .int (i6 + (1 : Int32)))]) [1, 2, 3, 4, 5, 0] rfl ?_
          exact ih a0 i2 i3 i4 i5 (i6 + (1 : Int32)) q10.2 h
        · refine x_if_eq_f (pc := 75) B 158 dX2_addPlans_75 (by decide) hc ?_
          refine x_iload (pc := 78) B 4 dX2_addPlans_78 rfl ?_
          refine x_iload (pc := 80) B 5 dX2_addPlans_80 rfl ?_
          refine x_iconst (pc := 82) B dX2_addPlans_82 xk_iconst_3 ?_
          refine x_irem (pc := 83) B dX2_addPlans_83 (by decide) ?_
          obtain ⟨q11, hq, h⟩ := xbind h
          refine x_callSN1 (st := []) (pc := 84) B dX2_addPlans_84 (eX3_has hq) xt_265 xt_53 np_X3_has hy_X3_has (Nat.le_of_ble_eq_true rfl) (Nat.le_of_ble_eq_true rfl) (Nat.le_of_ble_eq_true rfl) xt_264 (List.mem_of_getElem? (i := 2) rfl) rfl ?_
          rcases xite h with ⟨hc, h⟩ | ⟨hc, h⟩
          · refine x_if_ne_f (pc := 87) B 93 dX2_addPlans_87 (by decide) hc ?_
            refine x_goto (tgt := 158) (pc := 90) B dX2_addPlans_90 (by decide) ?_
            refine x_iinc (L1 := [(6, .int (i6 + (1 : Int32))), (0, .ref a0), (2, .int i2), (3, .int i3), (4, .int i4), (5, .int i5)]) (pc := 158) B 5 dX2_addPlans_158 rfl (congrArg _ xk_iconst_1) (by decide) rfl ?_
            refine x_goto (tgt := 45) (pc := 161) B dX2_addPlans_161 (by decide) ?_
            refine x_sub (L1 := [(0, .ref a0), (2, .int i2), (3, .int i3), (4, .int i4), (5, .int i5), (6, .int (i6 + (1 : Int32)))]) [1, 2, 3, 4, 5, 0] rfl ?_
            exact ih a0 i2 i3 i4 i5 (i6 + (1 : Int32)) q11.2 h
          · refine x_if_ne_t (tgt := 93) (pc := 87) B dX2_addPlans_87 (by decide) hc ?_
            refine x_aload_n (pc := 93) B 0 dX2_addPlans_93 rfl rfl ?_
            obtain ⟨v12, hv, h⟩ := xbind h
            refine x_getR (k0 := 0) (pc := 94) B dX2_addPlans_94 rfl xi_2 (by decide) ⟨rfl, rfl, rfl⟩ xt_99 hv ?_
            refine x_iload_n (pc := 97) B 1 dX2_addPlans_97 rfl rfl ?_
            refine x_iload (pc := 98) B 5 dX2_addPlans_98 rfl ?_
            refine x_iadd (pc := 100) B dX2_addPlans_100 ?_
            obtain ⟨q13, hq, h⟩ := xbind h
            refine x_callV0 (st := []) (pc := 101) B dX2_addPlans_101 (eX0_takePlan hq) xt_249 xt_54 np_X0_takePlan hy_X0_takePlan (Nat.le_of_ble_eq_true rfl) (Nat.le_of_ble_eq_true rfl) (Nat.le_of_ble_eq_true rfl) xt_247 xt_248 xt_246 rfl (iX0_takePlan hq) rfl ?_
            refine x_aload_n (pc := 104) B 0 dX2_addPlans_104 rfl rfl ?_
            obtain ⟨v14, hv, h⟩ := xbind h
            refine x_getR (k0 := 2) (pc := 105) B dX2_addPlans_105 rfl xi_2 (by decide) ⟨rfl, rfl, rfl⟩ xt_101 hv ?_
            refine x_iconst (pc := 108) B dX2_addPlans_108 xk_iconst_0 ?_
            obtain ⟨v15, hv, h⟩ := xbind h
            refine x_iald (pc := 109) B dX2_addPlans_109 hv ?_
            refine x_istore (L1 := [(7, .int v15), (0, .ref a0), (2, .int i2), (3, .int i3), (4, .int i4), (5, .int i5), (6, .int i6)]) (pc := 110) B dX2_addPlans_110 (by decide) rfl ?_
            refine x_aload_n (pc := 112) B 1 dX2_addPlans_112 rfl rfl ?_
            obtain ⟨v16, hv, h⟩ := xbind h
            refine x_getR (k0 := 0) (pc := 113) B dX2_addPlans_113 rfl xi_2 (by decide) ⟨rfl, rfl, rfl⟩ xt_99 hv ?_
            obtain ⟨q17, hq, h⟩ := xbind h
            refine x_callV1 (st := []) (pc := 116) B dX2_addPlans_116 (eX0_lowestBetterType hq) xt_279 xt_54 np_X0_lowestBetterType hy_X0_lowestBetterType (Nat.le_of_ble_eq_true rfl) (Nat.le_of_ble_eq_true rfl) (Nat.le_of_ble_eq_true rfl) xt_277 xt_278 xt_276 rfl (iX0_lowestBetterType hq) rfl ?_
            refine x_bipush (pc := 119) B dX2_addPlans_119 xk_bipush_m6 ?_
            rcases xite h with ⟨hc, h⟩ | ⟨hc, h⟩
            · refine x_icmp_ne_f (pc := 121) B 158 dX2_addPlans_121 (by decide) hc ?_
              refine x_iload (pc := 124) B 0 dX2_addPlans_124 rfl ?_
              refine x_aload_n (pc := 126) B 1 dX2_addPlans_126 rfl rfl ?_
              obtain ⟨v18, hv, h⟩ := xbind h
              refine x_getR (k0 := 1) (pc := 127) B dX2_addPlans_127 rfl xi_2 (by decide) ⟨rfl, rfl, rfl⟩ xt_100 hv ?_
              obtain ⟨v19, hv, h⟩ := xbind h
              refine x_alen (pc := 130) B dX2_addPlans_130 hv ?_
              obtain ⟨q20, hq, h⟩ := xbind h
              refine x_callSN1 (st := []) (pc := 131) B dX2_addPlans_131 (eX3_isWithin hq) xt_142 xt_53 np_X3_isWithin hy_X3_isWithin (Nat.le_of_ble_eq_true rfl) (Nat.le_of_ble_eq_true rfl) (Nat.le_of_ble_eq_true rfl) xt_141 (List.mem_of_getElem? (i := 3) rfl) rfl ?_
              rcases xite h with ⟨hc, h⟩ | ⟨hc, h⟩
              · refine x_if_eq_t (tgt := 158) (pc := 134) B dX2_addPlans_134 (by decide) hc ?_
                refine x_iinc (L1 := [(6, .int (i6 + (1 : Int32))), (7, .int v15), (0, .ref a0), (2, .int i2), (3, .int i3), (4, .int i4), (5, .int i5)]) (pc := 158) B 6 dX2_addPlans_158 rfl (congrArg _ xk_iconst_1) (by decide) rfl ?_
                refine x_goto (tgt := 45) (pc := 161) B dX2_addPlans_161 (by decide) ?_
                refine x_sub (L1 := [(0, .ref a0), (2, .int i2), (3, .int i3), (4, .int i4), (5, .int i5), (6, .int (i6 + (1 : Int32)))]) [2, 3, 4, 5, 6, 0] rfl ?_
                exact ih a0 i2 i3 i4 i5 (i6 + (1 : Int32)) q20.2 h
              · refine x_if_eq_f (pc := 134) B 158 dX2_addPlans_134 (by decide) hc ?_
                refine x_aload_n (pc := 137) B 1 dX2_addPlans_137 rfl rfl ?_
                obtain ⟨v21, hv, h⟩ := xbind h
                refine x_getR (k0 := 1) (pc := 138) B dX2_addPlans_138 rfl xi_2 (by decide) ⟨rfl, rfl, rfl⟩ xt_100 hv ?_
                refine x_iload (pc := 141) B 0 dX2_addPlans_141 rfl ?_
                refine x_iload_n (pc := 143) B 2 dX2_addPlans_143 rfl rfl ?_
                refine x_iload (pc := 144) B 6 dX2_addPlans_144 rfl ?_
                refine x_iadd (pc := 146) B dX2_addPlans_146 ?_
                obtain ⟨w22, hv, h⟩ := xbind h
                refine x_iast (pc := 147) B dX2_addPlans_147 hv ?_
                refine x_aload_n (pc := 148) B 1 dX2_addPlans_148 rfl rfl ?_
                obtain ⟨v23, hv, h⟩ := xbind h
                refine x_getR (k0 := 2) (pc := 149) B dX2_addPlans_149 rfl xi_2 (by decide) ⟨rfl, rfl, rfl⟩ xt_101 hv ?_
                refine x_iconst (pc := 152) B dX2_addPlans_152 xk_iconst_0 ?_
                refine x_dup2 (pc := 153) B dX2_addPlans_153 rfl rfl ?_
                obtain ⟨v24, hv, h⟩ := xbind h
                refine x_iald (pc := 154) B dX2_addPlans_154 hv ?_
                refine x_iconst (pc := 155) B dX2_addPlans_155 xk_iconst_1 ?_
                refine x_iadd (pc := 156) B dX2_addPlans_156 ?_
                obtain ⟨w25, hv, h⟩ := xbind h
                refine x_iast (pc := 157) B dX2_addPlans_157 hv ?_
                refine x_iinc (L1 := [(6, .int (i6 + (1 : Int32))), (7, .int v15), (0, .ref a0), (2, .int i2), (3, .int i3), (4, .int i4), (5, .int i5)]) (pc := 158) B 6 dX2_addPlans_158 rfl (congrArg _ xk_iconst_1) (by decide) rfl ?_
                refine x_goto (tgt := 45) (pc := 161) B dX2_addPlans_161 (by decide) ?_
                refine x_sub (L1 := [(0, .ref a0), (2, .int i2), (3, .int i3), (4, .int i4), (5, .int i5), (6, .int (i6 + (1 : Int32)))]) [2, 3, 4, 5, 6, 0] rfl ?_
                exact ih a0 i2 i3 i4 i5 (i6 + (1 : Int32)) w25 h
            · refine x_icmp_ne_t (tgt := 158) (pc := 121) B dX2_addPlans_121 (by decide) hc ?_
              refine x_iinc (L1 := [(6, .int (i6 + (1 : Int32))), (7, .int v15), (0, .ref a0), (2, .int i2), (3, .int i3), (4, .int i4), (5, .int i5)]) (pc := 158) B 6 dX2_addPlans_158 rfl (congrArg _ xk_iconst_1) (by decide) rfl ?_
              refine x_goto (tgt := 45) (pc := 161) B dX2_addPlans_161 (by decide) ?_
              refine x_sub (L1 := [(0, .ref a0), (2, .int i2), (3, .int i3), (4, .int i4), (5, .int i5), (6, .int (i6 + (1 : Int32)))]) [2, 3, 4, 5, 6, 0] rfl ?_
              exact ih a0 i2 i3 i4 i5 (i6 + (1 : Int32)) q17.2 h
def fX2_addPlans (a0 : Nat) (i1 : Int32) (w : XW) : Option XW := if xis w a0 2 = true then
  (xgR w a0 2 0).bind fun v1 =>
  (fX0_takePlan v1 (i1 * (27 : Int32)) w).bind fun q2 =>
  (xgR q2 a0 2 0).bind fun v3 =>
  (fX0_bestActions v3 (0 : Int32) q2).bind fun q4 =>
  (xgR q4.2 a0 2 0).bind fun v5 =>
  (fX0_bestActions v5 (1 : Int32) q4.2).bind fun q6 =>
  (xgR q6.2 a0 2 0).bind fun v7 =>
  (fX0_bestActions v7 (2 : Int32) q6.2).bind fun q8 =>
  fX2_addPlans_45 1000 a0 (i1 * (27 : Int32)) q4.1 q6.1 q8.1 (0 : Int32) q8.2
  else none
theorem iX2_addPlans {a0 : Nat} {i1 : Int32} {w : XW} {R9 : XW} (h : fX2_addPlans a0 i1 w = some R9) : xis w a0 2 = true := by
  unfold fX2_addPlans at h
  rcases xite h with ⟨hc, h⟩ | ⟨hc, h⟩
  · exact hc
  · exact absurd h (by simp)
theorem np_X2_addPlans : (parseMethodDescriptor yX2_addPlans.desc).map (fun d => d.parameters.length) = some 1 := by decide +kernel
theorem hy_X2_addPlans : yX2_addPlans.cls ≠ "java/lang/invoke/MethodHandle" ∧ yX2_addPlans.cls ≠ "java/lang/invoke/VarHandle" := ⟨by decide +kernel, by decide +kernel⟩
set_option maxRecDepth 20000 in
theorem eX2_addPlans {cx : CX} {a0 : Nat} {i1 : Int32} {w : XW} {R9 : XW} (h : fX2_addPlans a0 i1 w = some R9) : Ct yX2_addPlans cX2_addPlans 8 none 4 100 cx [.ref a0, .int i1] w none R9 := by
  refine Ct_of (by decide +kernel) (Nat.le_of_ble_eq_true rfl) (fun K B hR => ?_)
  rw [fX2_addPlans] at h
  show Wx K cx 8 w.length 0 [(0, .ref a0), (1, .int i1)] [] w
  rcases xite h with ⟨hc, h⟩ | ⟨hc, h⟩
  · skip
    refine x_iload_n (pc := 0) B 1 dX2_addPlans_0 rfl rfl ?_
    refine x_bipush (pc := 1) B dX2_addPlans_1 xk_bipush_27 ?_
    refine x_imul (pc := 3) B dX2_addPlans_3 ?_
    refine x_istore_n (L1 := [(2, .int (i1 * (27 : Int32))), (0, .ref a0), (1, .int i1)]) (pc := 4) B dX2_addPlans_4 rfl (by decide) rfl ?_
    refine x_aload_n (pc := 5) B 1 dX2_addPlans_5 rfl rfl ?_
    obtain ⟨v1, hv, h⟩ := xbind h
    refine x_getR (k0 := 0) (pc := 6) B dX2_addPlans_6 rfl xi_2 (by decide) ⟨rfl, rfl, rfl⟩ xt_99 hv ?_
    refine x_iload_n (pc := 9) B 0 dX2_addPlans_9 rfl rfl ?_
    obtain ⟨q2, hq, h⟩ := xbind h
    refine x_callV0 (st := []) (pc := 10) B dX2_addPlans_10 (eX0_takePlan hq) xt_249 xt_54 np_X0_takePlan hy_X0_takePlan (Nat.le_of_ble_eq_true rfl) (Nat.le_of_ble_eq_true rfl) (Nat.le_of_ble_eq_true rfl) xt_247 xt_248 xt_246 rfl (iX0_takePlan hq) rfl ?_
    refine x_aload_n (pc := 13) B 1 dX2_addPlans_13 rfl rfl ?_
    obtain ⟨v3, hv, h⟩ := xbind h
    refine x_getR (k0 := 0) (pc := 14) B dX2_addPlans_14 rfl xi_2 (by decide) ⟨rfl, rfl, rfl⟩ xt_99 hv ?_
    refine x_iconst (pc := 17) B dX2_addPlans_17 xk_iconst_0 ?_
    obtain ⟨q4, hq, h⟩ := xbind h
    refine x_callV1 (st := []) (pc := 18) B dX2_addPlans_18 (eX0_bestActions hq) xt_253 xt_54 np_X0_bestActions hy_X0_bestActions (Nat.le_of_ble_eq_true rfl) (Nat.le_of_ble_eq_true rfl) (Nat.le_of_ble_eq_true rfl) xt_251 xt_252 xt_250 rfl (iX0_bestActions hq) rfl ?_
    refine x_istore_n (L1 := [(3, .int q4.1), (2, .int (i1 * (27 : Int32))), (0, .ref a0), (1, .int i1)]) (pc := 21) B dX2_addPlans_21 rfl (by decide) rfl ?_
    refine x_aload_n (pc := 22) B 2 dX2_addPlans_22 rfl rfl ?_
    obtain ⟨v5, hv, h⟩ := xbind h
    refine x_getR (k0 := 0) (pc := 23) B dX2_addPlans_23 rfl xi_2 (by decide) ⟨rfl, rfl, rfl⟩ xt_99 hv ?_
    refine x_iconst (pc := 26) B dX2_addPlans_26 xk_iconst_1 ?_
    obtain ⟨q6, hq, h⟩ := xbind h
    refine x_callV1 (st := []) (pc := 27) B dX2_addPlans_27 (eX0_bestActions hq) xt_253 xt_54 np_X0_bestActions hy_X0_bestActions (Nat.le_of_ble_eq_true rfl) (Nat.le_of_ble_eq_true rfl) (Nat.le_of_ble_eq_true rfl) xt_251 xt_252 xt_250 rfl (iX0_bestActions hq) rfl ?_
    refine x_istore (L1 := [(4, .int q6.1), (3, .int q4.1), (2, .int (i1 * (27 : Int32))), (0, .ref a0), (1, .int i1)]) (pc := 30) B dX2_addPlans_30 (by decide) rfl ?_
    refine x_aload_n (pc := 32) B 3 dX2_addPlans_32 rfl rfl ?_
    obtain ⟨v7, hv, h⟩ := xbind h
    refine x_getR (k0 := 0) (pc := 33) B dX2_addPlans_33 rfl xi_2 (by decide) ⟨rfl, rfl, rfl⟩ xt_99 hv ?_
    refine x_iconst (pc := 36) B dX2_addPlans_36 xk_iconst_2 ?_
    obtain ⟨q8, hq, h⟩ := xbind h
    refine x_callV1 (st := []) (pc := 37) B dX2_addPlans_37 (eX0_bestActions hq) xt_253 xt_54 np_X0_bestActions hy_X0_bestActions (Nat.le_of_ble_eq_true rfl) (Nat.le_of_ble_eq_true rfl) (Nat.le_of_ble_eq_true rfl) xt_251 xt_252 xt_250 rfl (iX0_bestActions hq) rfl ?_
    refine x_istore (L1 := [(5, .int q8.1), (4, .int q6.1), (3, .int q4.1), (2, .int (i1 * (27 : Int32))), (0, .ref a0), (1, .int i1)]) (pc := 40) B dX2_addPlans_40 (by decide) rfl ?_
    refine x_iconst (pc := 42) B dX2_addPlans_42 xk_iconst_0 ?_
    refine x_istore (L1 := [(6, .int (0 : Int32)), (5, .int q8.1), (4, .int q6.1), (3, .int q4.1), (2, .int (i1 * (27 : Int32))), (0, .ref a0), (1, .int i1)]) (pc := 43) B dX2_addPlans_43 (by decide) rfl ?_
    refine x_sub (L1 := [(0, .ref a0), (2, .int (i1 * (27 : Int32))), (3, .int q4.1), (4, .int q6.1), (5, .int q8.1), (6, .int (0 : Int32))]) [5, 4, 3, 2, 1, 0] rfl ?_
    exact pX2_addPlans_45 B hR 1000 a0 (i1 * (27 : Int32)) q4.1 q6.1 q8.1 (0 : Int32) q8.2 h
  · exact absurd h (by simp)
def fX2_look_49 : Nat → Nat → Int32 → XW → Option XW
  | 0, _, _, _ => none
  | g + 1, a0, i2, w =>
    if (27 : Int32) ≤ i2 then
      some w
    else
    (fX2_addPlans a0 i2 w).bind fun q9 =>
    fX2_look_49 g a0 (i2 + (1 : Int32)) q9
set_option maxRecDepth 20000 in
theorem pX2_look_49 {K : KX} {cx : CX} {nn : Nat} {R9 : XW} (B : XB K cx RX2 cX2_look 3 nn 5 127) (hR : XR K cx nn none none R9) : ∀ (g : Nat) (a0 : Nat) (i2 : Int32) (w : XW), fX2_look_49 g a0 i2 w = some R9 → Wx K cx 3 nn 49 [(0, .ref a0), (2, .int i2)] [] w := by
  intro g
  induction g with
  | zero =>
    intro a0 i2 w h
    exact absurd (show (none : Option XW) = some R9 from h) (by simp)
  | succ g ih =>
    intro a0 i2 w h
    rw [fX2_look_49] at h
    refine x_iload_n (pc := 49) B 1 dX2_look_49 rfl rfl ?_
    refine x_bipush (pc := 50) B dX2_look_50 xk_bipush_27 ?_
    rcases xite h with ⟨hc, h⟩ | ⟨hc, h⟩
    · refine x_icmp_ge_t (tgt := 66) (pc := 52) B dX2_look_52 (by decide) hc ?_
      exact x_vret (pc := 66) B hR dX2_look_66 h
    · refine x_icmp_ge_f (pc := 52) B 66 dX2_look_52 (by decide) hc ?_
      refine x_aload_n (pc := 55) B 0 dX2_look_55 rfl rfl ?_
      refine x_iload_n (pc := 56) B 1 dX2_look_56 rfl rfl ?_
      obtain ⟨q9, hq, h⟩ := xbind h
      refine x_callV0 (st := []) (pc := 57) B dX2_look_57 (eX2_addPlans hq) xt_245 xt_56 np_X2_addPlans hy_X2_addPlans (Nat.le_of_ble_eq_true rfl) (Nat.le_of_ble_eq_true rfl) (Nat.le_of_ble_eq_true rfl) xt_244 xt_5 xt_242 rfl (iX2_addPlans hq) rfl ?_
      refine x_iinc (L1 := [(2, .int (i2 + (1 : Int32))), (0, .ref a0)]) (pc := 60) B 1 dX2_look_60 rfl (congrArg _ xk_iconst_1) (by decide) rfl ?_
      refine x_goto (tgt := 49) (pc := 63) B dX2_look_63 (by decide) ?_
      refine x_sub (L1 := [(0, .ref a0), (2, .int (i2 + (1 : Int32)))]) [1, 0] rfl ?_
      exact ih a0 (i2 + (1 : Int32)) q9 h
def fX2_look_19 (a0 : Nat) (a1 : Nat) (w : XW) : Option XW :=
  (xpZ w a0 2 3 (1 : Int32)).bind fun w2 =>
  (xgR w2 a0 2 0).bind fun v3 =>
  (fX0_copyFrom v3 a1 w2).bind fun q4 =>
  (xgR q4 a0 2 2).bind fun v5 =>
  (fJ7_fill_53178 v5 (-1 : Int32) q4).bind fun q6 =>
  (xgR q6 a0 2 2).bind fun v7 =>
  (xsI q6 v7 (0 : Int32) (0 : Int32)).bind fun w8 =>
  fX2_look_49 1000 a0 (0 : Int32) w8
set_option maxRecDepth 20000 in
theorem pX2_look_19 {K : KX} {cx : CX} {nn : Nat} {R9 : XW} (B : XB K cx RX2 cX2_look 3 nn 5 127) (hR : XR K cx nn none none R9) : ∀ (a0 : Nat) (a1 : Nat) (w : XW), fX2_look_19 a0 a1 w = some R9 → Wx K cx 3 nn 19 [(0, .ref a0), (1, .ref a1)] [] w := by
  intro a0 a1 w h
  rw [fX2_look_19] at h
  refine x_aload_n (pc := 19) B 0 dX2_look_19 rfl rfl ?_
  refine x_iconst (pc := 20) B dX2_look_20 xk_iconst_1 ?_
  obtain ⟨w2, hv, h⟩ := xbind h
  refine x_putZ (k0 := 3) (pc := 21) B dX2_look_21 rfl xi_2 (by decide) ⟨rfl, rfl, rfl⟩ xt_102 tyX2_ok nmX2 rfl xpdZ hv ?_
  refine x_aload_n (pc := 24) B 0 dX2_look_24 rfl rfl ?_
  obtain ⟨v3, hv, h⟩ := xbind h
  refine x_getR (k0 := 0) (pc := 25) B dX2_look_25 rfl xi_2 (by decide) ⟨rfl, rfl, rfl⟩ xt_99 hv ?_
  refine x_aload_n (pc := 28) B 1 dX2_look_28 rfl rfl ?_
  obtain ⟨q4, hq, h⟩ := xbind h
  refine x_callV0 (st := []) (pc := 29) B dX2_look_29 (eX0_copyFrom hq) xt_236 xt_54 np_X0_copyFrom hy_X0_copyFrom (Nat.le_of_ble_eq_true rfl) (Nat.le_of_ble_eq_true rfl) (Nat.le_of_ble_eq_true rfl) xt_234 xt_235 xt_233 rfl (iX0_copyFrom hq) rfl ?_
  refine x_aload_n (pc := 32) B 0 dX2_look_32 rfl rfl ?_
  obtain ⟨v5, hv, h⟩ := xbind h
  refine x_getR (k0 := 2) (pc := 33) B dX2_look_33 rfl xi_2 (by decide) ⟨rfl, rfl, rfl⟩ xt_101 hv ?_
  refine x_iconst (pc := 36) B dX2_look_36 xk_iconst_m1 ?_
  obtain ⟨q6, hq, h⟩ := xbind h
  refine x_callS0 (st := []) (pc := 37) B dX2_look_37 (eJ7_fill_53178 hq) xt_179 xt_55 np_J7_fill_53178 hy_J7_fill_53178 (Nat.le_of_ble_eq_true rfl) (Nat.le_of_ble_eq_true rfl) (Nat.le_of_ble_eq_true rfl) xt_178 xt_241 rfl ?_
  refine x_aload_n (pc := 40) B 0 dX2_look_40 rfl rfl ?_
  obtain ⟨v7, hv, h⟩ := xbind h
  refine x_getR (k0 := 2) (pc := 41) B dX2_look_41 rfl xi_2 (by decide) ⟨rfl, rfl, rfl⟩ xt_101 hv ?_
  refine x_iconst (pc := 44) B dX2_look_44 xk_iconst_0 ?_
  refine x_iconst (pc := 45) B dX2_look_45 xk_iconst_0 ?_
  obtain ⟨w8, hv, h⟩ := xbind h
  refine x_iast (pc := 46) B dX2_look_46 hv ?_
  refine x_iconst (pc := 47) B dX2_look_47 xk_iconst_0 ?_
  refine x_istore_n (L1 := [(2, .int (0 : Int32)), (0, .ref a0), (1, .ref a1)]) (pc := 48) B dX2_look_48 rfl (by decide) rfl ?_
  refine x_sub (L1 := [(0, .ref a0), (2, .int (0 : Int32))]) [1, 0] rfl ?_
  exact pX2_look_49 B hR 1000 a0 (0 : Int32) w8 h
def fX2_look (a0 : Nat) (a1 : Nat) (w : XW) : Option XW := if xis w a0 2 = true then
  (xgI w a0 2 3).bind fun v1 =>
  if v1 = (0 : Int32) then
    fX2_look_19 a0 a1 w
  else
  (xgR w a0 2 0).bind fun v10 =>
  (fX0_differsOnlyInPlan v10 a1 w).bind fun q11 =>
  if q11.1 = (0 : Int32) then
    fX2_look_19 a0 a1 q11.2
  else
  some q11.2
  else none
theorem iX2_look {a0 : Nat} {a1 : Nat} {w : XW} {R9 : XW} (h : fX2_look a0 a1 w = some R9) : xis w a0 2 = true := by
  unfold fX2_look at h
  rcases xite h with ⟨hc, h⟩ | ⟨hc, h⟩
  · exact hc
  · exact absurd h (by simp)
theorem np_X2_look : (parseMethodDescriptor yX2_look.desc).map (fun d => d.parameters.length) = some 1 := by decide +kernel
theorem hy_X2_look : yX2_look.cls ≠ "java/lang/invoke/MethodHandle" ∧ yX2_look.cls ≠ "java/lang/invoke/VarHandle" := ⟨by decide +kernel, by decide +kernel⟩
set_option maxRecDepth 20000 in
theorem eX2_look {cx : CX} {a0 : Nat} {a1 : Nat} {w : XW} {R9 : XW} (h : fX2_look a0 a1 w = some R9) : Ct yX2_look cX2_look 3 none 5 127 cx [.ref a0, .ref a1] w none R9 := by
  refine Ct_of (by decide +kernel) (Nat.le_of_ble_eq_true rfl) (fun K B hR => ?_)
  rw [fX2_look] at h
  show Wx K cx 3 w.length 0 [(0, .ref a0), (1, .ref a1)] [] w
  rcases xite h with ⟨hc, h⟩ | ⟨hc, h⟩
  · skip
    refine x_aload_n (pc := 0) B 0 dX2_look_0 rfl rfl ?_
    obtain ⟨v1, hv, h⟩ := xbind h
    refine x_getI (k0 := 3) (pc := 1) B dX2_look_1 rfl xi_2 (by decide) ⟨rfl, rfl, rfl⟩ xt_102 hv ?_
    rcases xite h with ⟨hc, h⟩ | ⟨hc, h⟩
    · refine x_if_eq_t (tgt := 19) (pc := 4) B dX2_look_4 (by decide) hc ?_
      exact pX2_look_19 B hR a0 a1 w h
    · refine x_if_eq_f (pc := 4) B 19 dX2_look_4 (by decide) hc ?_
      refine x_aload_n (pc := 7) B 0 dX2_look_7 rfl rfl ?_
      obtain ⟨v10, hv, h⟩ := xbind h
      refine x_getR (k0 := 0) (pc := 8) B dX2_look_8 rfl xi_2 (by decide) ⟨rfl, rfl, rfl⟩ xt_99 hv ?_
      refine x_aload_n (pc := 11) B 1 dX2_look_11 rfl rfl ?_
      obtain ⟨q11, hq, h⟩ := xbind h
      refine x_callV1 (st := []) (pc := 12) B dX2_look_12 (eX0_differsOnlyInPlan hq) xt_232 xt_54 np_X0_differsOnlyInPlan hy_X0_differsOnlyInPlan (Nat.le_of_ble_eq_true rfl) (Nat.le_of_ble_eq_true rfl) (Nat.le_of_ble_eq_true rfl) xt_230 xt_231 xt_229 rfl (iX0_differsOnlyInPlan hq) rfl ?_
      rcases xite h with ⟨hc, h⟩ | ⟨hc, h⟩
      · refine x_if_eq_t (tgt := 19) (pc := 15) B dX2_look_15 (by decide) hc ?_
        exact pX2_look_19 B hR a0 a1 q11.2 h
      · refine x_if_eq_f (pc := 15) B 19 dX2_look_15 (by decide) hc ?_
        exact x_vret (pc := 18) B hR dX2_look_18 h
  · exact absurd h (by simp)
def fX2_codeAt (a0 : Nat) (i1 : Int32) (w : XW) : Option (Int32 × XW) := if xis w a0 2 = true then
  (xgR w a0 2 1).bind fun v1 =>
  (xaL w v1).bind fun v2 =>
  (fX3_isWithin i1 v2 w).bind fun q3 =>
  if q3.1 = (0 : Int32) then
    some ((0 : Int32), q3.2)
  else
  (xgR q3.2 a0 2 1).bind fun v4 =>
  (xaI q3.2 v4 i1).bind fun v5 =>
  some (v5, q3.2)
  else none
theorem iX2_codeAt {a0 : Nat} {i1 : Int32} {w : XW} {R9 : (Int32 × XW)} (h : fX2_codeAt a0 i1 w = some R9) : xis w a0 2 = true := by
  unfold fX2_codeAt at h
  rcases xite h with ⟨hc, h⟩ | ⟨hc, h⟩
  · exact hc
  · exact absurd h (by simp)
theorem np_X2_codeAt : (parseMethodDescriptor yX2_codeAt.desc).map (fun d => d.parameters.length) = some 1 := by decide +kernel
theorem hy_X2_codeAt : yX2_codeAt.cls ≠ "java/lang/invoke/MethodHandle" ∧ yX2_codeAt.cls ≠ "java/lang/invoke/VarHandle" := ⟨by decide +kernel, by decide +kernel⟩
set_option maxRecDepth 20000 in
theorem eX2_codeAt {cx : CX} {a0 : Nat} {i1 : Int32} {w : XW} {R9 : (Int32 × XW)} (h : fX2_codeAt a0 i1 w = some R9) : Ct yX2_codeAt cX2_codeAt 2 (some .int) 1 21 cx [.ref a0, .int i1] w (some (.int R9.1)) R9.2 := by
  refine Ct_of (by decide +kernel) (Nat.le_of_ble_eq_true rfl) (fun K B hR => ?_)
  rw [fX2_codeAt] at h
  show Wx K cx 2 w.length 0 [(0, .ref a0), (1, .int i1)] [] w
  rcases xite h with ⟨hc, h⟩ | ⟨hc, h⟩
  · skip
    refine x_iload_n (pc := 0) B 1 dX2_codeAt_0 rfl rfl ?_
    refine x_aload_n (pc := 1) B 0 dX2_codeAt_1 rfl rfl ?_
    obtain ⟨v1, hv, h⟩ := xbind h
    refine x_getR (k0 := 1) (pc := 2) B dX2_codeAt_2 rfl xi_2 (by decide) ⟨rfl, rfl, rfl⟩ xt_100 hv ?_
    obtain ⟨v2, hv, h⟩ := xbind h
    refine x_alen (pc := 5) B dX2_codeAt_5 hv ?_
    obtain ⟨q3, hq, h⟩ := xbind h
    refine x_callSN1 (st := []) (pc := 6) B dX2_codeAt_6 (eX3_isWithin hq) xt_142 xt_53 np_X3_isWithin hy_X3_isWithin (Nat.le_of_ble_eq_true rfl) (Nat.le_of_ble_eq_true rfl) (Nat.le_of_ble_eq_true rfl) xt_141 (List.mem_of_getElem? (i := 3) rfl) rfl ?_
    rcases xite h with ⟨hc, h⟩ | ⟨hc, h⟩
    · refine x_if_eq_t (tgt := 21) (pc := 9) B dX2_codeAt_9 (by decide) hc ?_
      refine x_iconst (pc := 21) B dX2_codeAt_21 xk_iconst_0 ?_
      exact x_iret (pc := 22) B hR dX2_codeAt_22 (xzI _) h
    · refine x_if_eq_f (pc := 9) B 21 dX2_codeAt_9 (by decide) hc ?_
      refine x_aload_n (pc := 12) B 0 dX2_codeAt_12 rfl rfl ?_
      obtain ⟨v4, hv, h⟩ := xbind h
      refine x_getR (k0 := 1) (pc := 13) B dX2_codeAt_13 rfl xi_2 (by decide) ⟨rfl, rfl, rfl⟩ xt_100 hv ?_
      refine x_iload_n (pc := 16) B 1 dX2_codeAt_16 rfl rfl ?_
      obtain ⟨v5, hv, h⟩ := xbind h
      refine x_iald (pc := 17) B dX2_codeAt_17 hv ?_
      refine x_goto (tgt := 22) (pc := 18) B dX2_codeAt_18 (by decide) ?_
      exact x_iret (pc := 22) B hR dX2_codeAt_22 (xzI _) h
  · exact absurd h (by simp)
def fX2_numberOf_37 : Nat → Nat → Int32 → Int32 → Int32 → XW → Option (Int32 × XW)
  | 0, _, _, _, _, _ => none
  | g + 1, a0, i2, i3, i4, w =>
    (xgR w a0 2 2).bind fun v5 =>
    (xaI w v5 (0 : Int32)).bind fun v6 =>
    if v6 ≤ i4 then
      (xgR w a0 2 2).bind fun v7 =>
      (xsI w v7 i2 i3).bind fun w8 =>
      some (i3, w8)
    else
    (xgR w a0 2 0).bind fun v9 =>
    (fX2_codeAt a0 i4 w).bind fun q10 =>
    (fX0_takePlan v9 q10.1 q10.2).bind fun q11 =>
    if i2 = (1 : Int32) then
      (xgR q11 a0 2 0).bind fun v12 =>
      (fX0_isUntempted v12 q11).bind fun q13 =>
      if q13.1 = (0 : Int32) then
        fX2_numberOf_37 g a0 i2 i3 (i4 + (1 : Int32)) q13.2
      else
      fX2_numberOf_37 g a0 i2 (i3 + (1 : Int32)) (i4 + (1 : Int32)) q13.2
    else
    (xgR q11 a0 2 0).bind fun v14 =>
    (fX0_kind v14 q11).bind fun q15 =>
    if q15.1 = (i2 - (2 : Int32)) then
      fX2_numberOf_37 g a0 i2 (i3 + (1 : Int32)) (i4 + (1 : Int32)) q15.2
    else
    fX2_numberOf_37 g a0 i2 i3 (i4 + (1 : Int32)) q15.2
set_option maxRecDepth 20000 in
theorem pX2_numberOf_37 {K : KX} {cx : CX} {nn : Nat} {R9 : Int32 × XW} (B : XB K cx RX2 cX2_numberOf 6 nn 6 155) (hR : XR K cx nn (some .int) (some (.int R9.1)) R9.2) : ∀ (g : Nat) (a0 : Nat) (i2 : Int32) (i3 : Int32) (i4 : Int32) (w : XW), fX2_numberOf_37 g a0 i2 i3 i4 w = some R9 → Wx K cx 6 nn 37 [(0, .ref a0), (2, .int i2), (3, .int i3), (4, .int i4)] [] w := by
  intro g
  induction g with
  | zero =>
    intro a0 i2 i3 i4 w h
    exact absurd (show (none : Option (Int32 × XW)) = some R9 from h) (by simp)
  | succ g ih =>
    intro a0 i2 i3 i4 w h
    rw [fX2_numberOf_37] at h
    refine x_iload (pc := 37) B 3 dX2_numberOf_37 rfl ?_
    refine x_aload_n (pc := 39) B 0 dX2_numberOf_39 rfl rfl ?_
    obtain ⟨v5, hv, h⟩ := xbind h
    refine x_getR (k0 := 2) (pc := 40) B dX2_numberOf_40 rfl xi_2 (by decide) ⟨rfl, rfl, rfl⟩ xt_101 hv ?_
    refine x_iconst (pc := 43) B dX2_numberOf_43 xk_iconst_0 ?_
    obtain ⟨v6, hv, h⟩ := xbind h
    refine x_iald (pc := 44) B dX2_numberOf_44 hv ?_
    rcases xite h with ⟨hc, h⟩ | ⟨hc, h⟩
    · refine x_icmp_ge_t (tgt := 110) (pc := 45) B dX2_numberOf_45 (by decide) hc ?_
      refine x_aload_n (pc := 110) B 0 dX2_numberOf_110 rfl rfl ?_
      obtain ⟨v7, hv, h⟩ := xbind h
      refine x_getR (k0 := 2) (pc := 111) B dX2_numberOf_111 rfl xi_2 (by decide) ⟨rfl, rfl, rfl⟩ xt_101 hv ?_
      refine x_iload_n (pc := 114) B 1 dX2_numberOf_114 rfl rfl ?_
      refine x_iload_n (pc := 115) B 2 dX2_numberOf_115 rfl rfl ?_
      obtain ⟨w8, hv, h⟩ := xbind h
      refine x_iast (pc := 116) B dX2_numberOf_116 hv ?_
      refine x_iload_n (pc := 117) B 2 dX2_numberOf_117 rfl rfl ?_
      exact x_iret (pc := 118) B hR dX2_numberOf_118 (xzI _) h
    · refine x_icmp_ge_f (pc := 45) B 110 dX2_numberOf_45 (by decide) hc ?_
      refine x_aload_n (pc := 48) B 0 dX2_numberOf_48 rfl rfl ?_
      obtain ⟨v9, hv, h⟩ := xbind h
      refine x_getR (k0 := 0) (pc := 49) B dX2_numberOf_49 rfl xi_2 (by decide) ⟨rfl, rfl, rfl⟩ xt_99 hv ?_
      refine x_aload_n (pc := 52) B 0 dX2_numberOf_52 rfl rfl ?_
      refine x_iload (pc := 53) B 3 dX2_numberOf_53 rfl ?_
      obtain ⟨q10, hq, h⟩ := xbind h
      refine x_callV1 (st := [.ref v9]) (pc := 55) B dX2_numberOf_55 (eX2_codeAt hq) xt_297 xt_56 np_X2_codeAt hy_X2_codeAt (Nat.le_of_ble_eq_true rfl) (Nat.le_of_ble_eq_true rfl) (Nat.le_of_ble_eq_true rfl) xt_295 xt_296 xt_294 rfl (iX2_codeAt hq) rfl ?_
      obtain ⟨q11, hq, h⟩ := xbind h
      refine x_callV0 (st := []) (pc := 58) B dX2_numberOf_58 (eX0_takePlan hq) xt_249 xt_54 np_X0_takePlan hy_X0_takePlan (Nat.le_of_ble_eq_true rfl) (Nat.le_of_ble_eq_true rfl) (Nat.le_of_ble_eq_true rfl) xt_247 xt_248 xt_246 rfl (iX0_takePlan hq) rfl ?_
      refine x_iload_n (pc := 61) B 1 dX2_numberOf_61 rfl rfl ?_
      refine x_iconst (pc := 62) B dX2_numberOf_62 xk_iconst_1 ?_
      rcases xite h with ⟨hc, h⟩ | ⟨hc, h⟩
      · refine x_icmp_ne_f (pc := 63) B 76 dX2_numberOf_63 (by decide) hc ?_
        refine x_aload_n (pc := 66) B 0 dX2_numberOf_66 rfl rfl ?_
        obtain ⟨v12, hv, h⟩ := xbind h
        refine x_getR (k0 := 0) (pc := 67) B dX2_numberOf_67 rfl xi_2 (by decide) ⟨rfl, rfl, rfl⟩ xt_99 hv ?_
        obtain ⟨q13, hq, h⟩ := xbind h
        refine x_callV1 (st := []) (pc := 70) B dX2_numberOf_70 (eX0_isUntempted hq) xt_301 xt_54 np_X0_isUntempted hy_X0_isUntempted (Nat.le_of_ble_eq_true rfl) (Nat.le_of_ble_eq_true rfl) (Nat.le_of_ble_eq_true rfl) xt_299 xt_300 xt_298 rfl (iX0_isUntempted hq) rfl ?_
        refine x_goto (tgt := 94) (pc := 73) B dX2_numberOf_73 (by decide) ?_
        refine x_istore (L1 := [(5, .int q13.1), (0, .ref a0), (2, .int i2), (3, .int i3), (4, .int i4)]) (pc := 94) B dX2_numberOf_94 (by decide) rfl ?_
        refine x_iload (pc := 96) B 0 dX2_numberOf_96 rfl ?_
        rcases xite h with ⟨hc, h⟩ | ⟨hc, h⟩
        · refine x_if_eq_t (tgt := 104) (pc := 98) B dX2_numberOf_98 (by decide) hc ?_
          refine x_iinc (L1 := [(4, .int (i4 + (1 : Int32))), (5, .int q13.1), (0, .ref a0), (2, .int i2), (3, .int i3)]) (pc := 104) B 4 dX2_numberOf_104 rfl (congrArg _ xk_iconst_1) (by decide) rfl ?_
          refine x_goto (tgt := 37) (pc := 107) B dX2_numberOf_107 (by decide) ?_
          refine x_sub (L1 := [(0, .ref a0), (2, .int i2), (3, .int i3), (4, .int (i4 + (1 : Int32)))]) [2, 3, 4, 0] rfl ?_
          exact ih a0 i2 i3 (i4 + (1 : Int32)) q13.2 h
        · refine x_if_eq_f (pc := 98) B 104 dX2_numberOf_98 (by decide) hc ?_
          refine x_iinc (L1 := [(3, .int (i3 + (1 : Int32))), (5, .int q13.1), (0, .ref a0), (2, .int i2), (4, .int i4)]) (pc := 101) B 3 dX2_numberOf_101 rfl (congrArg _ xk_iconst_1) (by decide) rfl ?_
          refine x_iinc (L1 := [(4, .int (i4 + (1 : Int32))), (3, .int (i3 + (1 : Int32))), (5, .int q13.1), (0, .ref a0), (2, .int i2)]) (pc := 104) B 4 dX2_numberOf_104 rfl (congrArg _ xk_iconst_1) (by decide) rfl ?_
          refine x_goto (tgt := 37) (pc := 107) B dX2_numberOf_107 (by decide) ?_
          refine x_sub (L1 := [(0, .ref a0), (2, .int i2), (3, .int (i3 + (1 : Int32))), (4, .int (i4 + (1 : Int32)))]) [3, 4, 1, 0] rfl ?_
          exact ih a0 i2 (i3 + (1 : Int32)) (i4 + (1 : Int32)) q13.2 h
      · refine x_icmp_ne_t (tgt := 76) (pc := 63) B dX2_numberOf_63 (by decide) hc ?_
        refine x_aload_n (pc := 76) B 0 dX2_numberOf_76 rfl rfl ?_
        obtain ⟨v14, hv, h⟩ := xbind h
        refine x_getR (k0 := 0) (pc := 77) B dX2_numberOf_77 rfl xi_2 (by decide) ⟨rfl, rfl, rfl⟩ xt_99 hv ?_
        obtain ⟨q15, hq, h⟩ := xbind h
        refine x_callV1 (st := []) (pc := 80) B dX2_numberOf_80 (eX0_kind hq) xt_331 xt_54 np_X0_kind hy_X0_kind (Nat.le_of_ble_eq_true rfl) (Nat.le_of_ble_eq_true rfl) (Nat.le_of_ble_eq_true rfl) xt_329 xt_330 xt_328 rfl (iX0_kind hq) rfl ?_
        refine x_iload_n (pc := 83) B 1 dX2_numberOf_83 rfl rfl ?_
        refine x_iconst (pc := 84) B dX2_numberOf_84 xk_iconst_2 ?_
        refine x_isub (pc := 85) B dX2_numberOf_85 ?_
        rcases xite h with ⟨hc, h⟩ | ⟨hc, h⟩
        · refine x_icmp_ne_f (pc := 86) B 93 dX2_numberOf_86 (by decide) hc ?_
          refine x_iconst (pc := 89) B dX2_numberOf_89 xk_iconst_1 ?_
          refine x_goto (tgt := 94) (pc := 90) B dX2_numberOf_90 (by decide) ?_
          refine x_istore (L1 := [(5, .int (1 : Int32)), (0, .ref a0), (2, .int i2), (3, .int i3), (4, .int i4)]) (pc := 94) B dX2_numberOf_94 (by decide) rfl ?_
          refine x_iload (pc := 96) B 0 dX2_numberOf_96 rfl ?_
          refine x_if_eq_f (pc := 98) B 104 dX2_numberOf_98 (by decide) (by decide) ?_
          refine x_iinc (L1 := [(3, .int (i3 + (1 : Int32))), (5, .int (1 : Int32)), (0, .ref a0), (2, .int i2), (4, .int i4)]) (pc := 101) B 3 dX2_numberOf_101 rfl (congrArg _ xk_iconst_1) (by decide) rfl ?_
          refine x_iinc (L1 := [(4, .int (i4 + (1 : Int32))), (3, .int (i3 + (1 : Int32))), (5, .int (1 : Int32)), (0, .ref a0), (2, .int i2)]) (pc := 104) B 4 dX2_numberOf_104 rfl (congrArg _ xk_iconst_1) (by decide) rfl ?_
          refine x_goto (tgt := 37) (pc := 107) B dX2_numberOf_107 (by decide) ?_
          refine x_sub (L1 := [(0, .ref a0), (2, .int i2), (3, .int (i3 + (1 : Int32))), (4, .int (i4 + (1 : Int32)))]) [3, 4, 1, 0] rfl ?_
          exact ih a0 i2 (i3 + (1 : Int32)) (i4 + (1 : Int32)) q15.2 h
        · refine x_icmp_ne_t (tgt := 93) (pc := 86) B dX2_numberOf_86 (by decide) hc ?_
          refine x_iconst (pc := 93) B dX2_numberOf_93 xk_iconst_0 ?_
          refine x_istore (L1 := [(5, .int (0 : Int32)), (0, .ref a0), (2, .int i2), (3, .int i3), (4, .int i4)]) (pc := 94) B dX2_numberOf_94 (by decide) rfl ?_
          refine x_iload (pc := 96) B 0 dX2_numberOf_96 rfl ?_
          refine x_if_eq_t (tgt := 104) (pc := 98) B dX2_numberOf_98 (by decide) (by decide) ?_
          refine x_iinc (L1 := [(4, .int (i4 + (1 : Int32))), (5, .int (0 : Int32)), (0, .ref a0), (2, .int i2), (3, .int i3)]) (pc := 104) B 4 dX2_numberOf_104 rfl (congrArg _ xk_iconst_1) (by decide) rfl ?_
          refine x_goto (tgt := 37) (pc := 107) B dX2_numberOf_107 (by decide) ?_
          refine x_sub (L1 := [(0, .ref a0), (2, .int i2), (3, .int i3), (4, .int (i4 + (1 : Int32)))]) [2, 3, 4, 0] rfl ?_
          exact ih a0 i2 i3 (i4 + (1 : Int32)) q15.2 h
def fX2_numberOf (a0 : Nat) (a1 : Nat) (i2 : Int32) (w : XW) : Option (Int32 × XW) := if xis w a0 2 = true then
  (fX2_look a0 a1 w).bind fun q1 =>
  (fX3_isWithin i2 (5 : Int32) q1).bind fun q2 =>
  if q2.1 = (0 : Int32) then
    some ((0 : Int32), q2.2)
  else
  (xgR q2.2 a0 2 2).bind fun v3 =>
  (xaI q2.2 v3 i2).bind fun v4 =>
  if v4 = (-1 : Int32) then
    fX2_numberOf_37 1000 a0 i2 (0 : Int32) (0 : Int32) q2.2
  else
  (xgR q2.2 a0 2 2).bind fun v16 =>
  (xaI q2.2 v16 i2).bind fun v17 =>
  some (v17, q2.2)
  else none
theorem iX2_numberOf {a0 : Nat} {a1 : Nat} {i2 : Int32} {w : XW} {R9 : (Int32 × XW)} (h : fX2_numberOf a0 a1 i2 w = some R9) : xis w a0 2 = true := by
  unfold fX2_numberOf at h
  rcases xite h with ⟨hc, h⟩ | ⟨hc, h⟩
  · exact hc
  · exact absurd h (by simp)
theorem np_X2_numberOf : (parseMethodDescriptor yX2_numberOf.desc).map (fun d => d.parameters.length) = some 2 := by decide +kernel
theorem hy_X2_numberOf : yX2_numberOf.cls ≠ "java/lang/invoke/MethodHandle" ∧ yX2_numberOf.cls ≠ "java/lang/invoke/VarHandle" := ⟨by decide +kernel, by decide +kernel⟩
set_option maxRecDepth 20000 in
theorem eX2_numberOf {cx : CX} {a0 : Nat} {a1 : Nat} {i2 : Int32} {w : XW} {R9 : (Int32 × XW)} (h : fX2_numberOf a0 a1 i2 w = some R9) : Ct yX2_numberOf cX2_numberOf 6 (some .int) 6 155 cx [.ref a0, .ref a1, .int i2] w (some (.int R9.1)) R9.2 := by
  refine Ct_of (by decide +kernel) (Nat.le_of_ble_eq_true rfl) (fun K B hR => ?_)
  rw [fX2_numberOf] at h
  show Wx K cx 6 w.length 0 [(0, .ref a0), (1, .ref a1), (2, .int i2)] [] w
  rcases xite h with ⟨hc, h⟩ | ⟨hc, h⟩
  · skip
    refine x_aload_n (pc := 0) B 0 dX2_numberOf_0 rfl rfl ?_
    refine x_aload_n (pc := 1) B 1 dX2_numberOf_1 rfl rfl ?_
    obtain ⟨q1, hq, h⟩ := xbind h
    refine x_callV0 (st := []) (pc := 2) B dX2_numberOf_2 (eX2_look hq) xt_228 xt_56 np_X2_look hy_X2_look (Nat.le_of_ble_eq_true rfl) (Nat.le_of_ble_eq_true rfl) (Nat.le_of_ble_eq_true rfl) xt_227 xt_4 xt_225 rfl (iX2_look hq) rfl ?_
    refine x_iload_n (pc := 5) B 2 dX2_numberOf_5 rfl rfl ?_
    refine x_iconst (pc := 6) B dX2_numberOf_6 xk_iconst_5 ?_
    obtain ⟨q2, hq, h⟩ := xbind h
    refine x_callSN1 (st := []) (pc := 7) B dX2_numberOf_7 (eX3_isWithin hq) xt_142 xt_53 np_X3_isWithin hy_X3_isWithin (Nat.le_of_ble_eq_true rfl) (Nat.le_of_ble_eq_true rfl) (Nat.le_of_ble_eq_true rfl) xt_141 (List.mem_of_getElem? (i := 3) rfl) rfl ?_
    rcases xite h with ⟨hc, h⟩ | ⟨hc, h⟩
    · refine x_if_ne_f (pc := 10) B 15 dX2_numberOf_10 (by decide) hc ?_
      refine x_iconst (pc := 13) B dX2_numberOf_13 xk_iconst_0 ?_
      exact x_iret (pc := 14) B hR dX2_numberOf_14 (xzI _) h
    · refine x_if_ne_t (tgt := 15) (pc := 10) B dX2_numberOf_10 (by decide) hc ?_
      refine x_aload_n (pc := 15) B 0 dX2_numberOf_15 rfl rfl ?_
      obtain ⟨v3, hv, h⟩ := xbind h
      refine x_getR (k0 := 2) (pc := 16) B dX2_numberOf_16 rfl xi_2 (by decide) ⟨rfl, rfl, rfl⟩ xt_101 hv ?_
      refine x_iload_n (pc := 19) B 2 dX2_numberOf_19 rfl rfl ?_
      obtain ⟨v4, hv, h⟩ := xbind h
      refine x_iald (pc := 20) B dX2_numberOf_20 hv ?_
      refine x_iconst (pc := 21) B dX2_numberOf_21 xk_iconst_m1 ?_
      rcases xite h with ⟨hc, h⟩ | ⟨hc, h⟩
      · refine x_icmp_eq_t (tgt := 32) (pc := 22) B dX2_numberOf_22 (by decide) hc ?_
        refine x_iconst (pc := 32) B dX2_numberOf_32 xk_iconst_0 ?_
        refine x_istore_n (L1 := [(3, .int (0 : Int32)), (0, .ref a0), (1, .ref a1), (2, .int i2)]) (pc := 33) B dX2_numberOf_33 rfl (by decide) rfl ?_
        refine x_iconst (pc := 34) B dX2_numberOf_34 xk_iconst_0 ?_
        refine x_istore (L1 := [(4, .int (0 : Int32)), (3, .int (0 : Int32)), (0, .ref a0), (1, .ref a1), (2, .int i2)]) (pc := 35) B dX2_numberOf_35 (by decide) rfl ?_
        refine x_sub (L1 := [(0, .ref a0), (2, .int i2), (3, .int (0 : Int32)), (4, .int (0 : Int32))]) [2, 4, 1, 0] rfl ?_
        exact pX2_numberOf_37 B hR 1000 a0 i2 (0 : Int32) (0 : Int32) q2.2 h
      · refine x_icmp_eq_f (pc := 22) B 32 dX2_numberOf_22 (by decide) hc ?_
        refine x_aload_n (pc := 25) B 0 dX2_numberOf_25 rfl rfl ?_
        obtain ⟨v16, hv, h⟩ := xbind h
        refine x_getR (k0 := 2) (pc := 26) B dX2_numberOf_26 rfl xi_2 (by decide) ⟨rfl, rfl, rfl⟩ xt_101 hv ?_
        refine x_iload_n (pc := 29) B 2 dX2_numberOf_29 rfl rfl ?_
        obtain ⟨v17, hv, h⟩ := xbind h
        refine x_iald (pc := 30) B dX2_numberOf_30 hv ?_
        exact x_iret (pc := 31) B hR dX2_numberOf_31 (xzI _) h
  · exact absurd h (by simp)
def fX2_receiverSumAt (a0 : Nat) (i1 : Int32) (w : XW) : Option (Int32 × XW) := if xis w a0 2 = true then
  (xgR w a0 2 0).bind fun v1 =>
  (fX2_codeAt a0 i1 w).bind fun q2 =>
  (fX0_takePlan v1 q2.1 q2.2).bind fun q3 =>
  (xgR q3 a0 2 0).bind fun v4 =>
  (fX0_receiverSum v4 q3).bind fun q5 =>
  some (q5.1, q5.2)
  else none
theorem iX2_receiverSumAt {a0 : Nat} {i1 : Int32} {w : XW} {R9 : (Int32 × XW)} (h : fX2_receiverSumAt a0 i1 w = some R9) : xis w a0 2 = true := by
  unfold fX2_receiverSumAt at h
  rcases xite h with ⟨hc, h⟩ | ⟨hc, h⟩
  · exact hc
  · exact absurd h (by simp)
theorem np_X2_receiverSumAt : (parseMethodDescriptor yX2_receiverSumAt.desc).map (fun d => d.parameters.length) = some 1 := by decide +kernel
theorem hy_X2_receiverSumAt : yX2_receiverSumAt.cls ≠ "java/lang/invoke/MethodHandle" ∧ yX2_receiverSumAt.cls ≠ "java/lang/invoke/VarHandle" := ⟨by decide +kernel, by decide +kernel⟩
set_option maxRecDepth 20000 in
theorem eX2_receiverSumAt {cx : CX} {a0 : Nat} {i1 : Int32} {w : XW} {R9 : (Int32 × XW)} (h : fX2_receiverSumAt a0 i1 w = some R9) : Ct yX2_receiverSumAt cX2_receiverSumAt 2 (some .int) 2 47 cx [.ref a0, .int i1] w (some (.int R9.1)) R9.2 := by
  refine Ct_of (by decide +kernel) (Nat.le_of_ble_eq_true rfl) (fun K B hR => ?_)
  rw [fX2_receiverSumAt] at h
  show Wx K cx 2 w.length 0 [(0, .ref a0), (1, .int i1)] [] w
  rcases xite h with ⟨hc, h⟩ | ⟨hc, h⟩
  · skip
    refine x_aload_n (pc := 0) B 0 dX2_receiverSumAt_0 rfl rfl ?_
    obtain ⟨v1, hv, h⟩ := xbind h
    refine x_getR (k0 := 0) (pc := 1) B dX2_receiverSumAt_1 rfl xi_2 (by decide) ⟨rfl, rfl, rfl⟩ xt_99 hv ?_
    refine x_aload_n (pc := 4) B 0 dX2_receiverSumAt_4 rfl rfl ?_
    refine x_iload_n (pc := 5) B 1 dX2_receiverSumAt_5 rfl rfl ?_
    obtain ⟨q2, hq, h⟩ := xbind h
    refine x_callV1 (st := [.ref v1]) (pc := 6) B dX2_receiverSumAt_6 (eX2_codeAt hq) xt_297 xt_56 np_X2_codeAt hy_X2_codeAt (Nat.le_of_ble_eq_true rfl) (Nat.le_of_ble_eq_true rfl) (Nat.le_of_ble_eq_true rfl) xt_295 xt_296 xt_294 rfl (iX2_codeAt hq) rfl ?_
    obtain ⟨q3, hq, h⟩ := xbind h
    refine x_callV0 (st := []) (pc := 9) B dX2_receiverSumAt_9 (eX0_takePlan hq) xt_249 xt_54 np_X0_takePlan hy_X0_takePlan (Nat.le_of_ble_eq_true rfl) (Nat.le_of_ble_eq_true rfl) (Nat.le_of_ble_eq_true rfl) xt_247 xt_248 xt_246 rfl (iX0_takePlan hq) rfl ?_
    refine x_aload_n (pc := 12) B 0 dX2_receiverSumAt_12 rfl rfl ?_
    obtain ⟨v4, hv, h⟩ := xbind h
    refine x_getR (k0 := 0) (pc := 13) B dX2_receiverSumAt_13 rfl xi_2 (by decide) ⟨rfl, rfl, rfl⟩ xt_99 hv ?_
    obtain ⟨q5, hq, h⟩ := xbind h
    refine x_callV1 (st := []) (pc := 16) B dX2_receiverSumAt_16 (eX0_receiverSum hq) xt_449 xt_54 np_X0_receiverSum hy_X0_receiverSum (Nat.le_of_ble_eq_true rfl) (Nat.le_of_ble_eq_true rfl) (Nat.le_of_ble_eq_true rfl) xt_447 xt_448 xt_446 rfl (iX0_receiverSum hq) rfl ?_
    exact x_iret (pc := 19) B hR dX2_receiverSumAt_19 (xzI _) h
  · exact absurd h (by simp)
def fX2_bestPlace_13 : Nat → Nat → Int32 → Int32 → Int32 → XW → Option (Int32 × XW)
  | 0, _, _, _, _, _ => none
  | g + 1, a0, i2, i3, i4, w =>
    (xgR w a0 2 2).bind fun v2 =>
    (xaI w v2 (0 : Int32)).bind fun v3 =>
    if v3 ≤ i4 then
      some (i2, w)
    else
    (fX2_receiverSumAt a0 i4 w).bind fun q4 =>
    if i2 = (-6 : Int32) then
      fX2_bestPlace_13 g a0 i4 q4.1 (i4 + (1 : Int32)) q4.2
    else
    if q4.1 ≤ i3 then
      fX2_bestPlace_13 g a0 i2 i3 (i4 + (1 : Int32)) q4.2
    else
    fX2_bestPlace_13 g a0 i4 q4.1 (i4 + (1 : Int32)) q4.2
set_option maxRecDepth 20000 in
theorem pX2_bestPlace_13 {K : KX} {cx : CX} {nn : Nat} {R9 : Int32 × XW} (B : XB K cx RX2 cX2_bestPlace 6 nn 6 149) (hR : XR K cx nn (some .int) (some (.int R9.1)) R9.2) : ∀ (g : Nat) (a0 : Nat) (i2 : Int32) (i3 : Int32) (i4 : Int32) (w : XW), fX2_bestPlace_13 g a0 i2 i3 i4 w = some R9 → Wx K cx 6 nn 13 [(0, .ref a0), (2, .int i2), (3, .int i3), (4, .int i4)] [] w := by
  intro g
  induction g with
  | zero =>
    intro a0 i2 i3 i4 w h
    exact absurd (show (none : Option (Int32 × XW)) = some R9 from h) (by simp)
  | succ g ih =>
    intro a0 i2 i3 i4 w h
    rw [fX2_bestPlace_13] at h
    refine x_iload (pc := 13) B 3 dX2_bestPlace_13 rfl ?_
    refine x_aload_n (pc := 15) B 0 dX2_bestPlace_15 rfl rfl ?_
    obtain ⟨v2, hv, h⟩ := xbind h
    refine x_getR (k0 := 2) (pc := 16) B dX2_bestPlace_16 rfl xi_2 (by decide) ⟨rfl, rfl, rfl⟩ xt_101 hv ?_
    refine x_iconst (pc := 19) B dX2_bestPlace_19 xk_iconst_0 ?_
    obtain ⟨v3, hv, h⟩ := xbind h
    refine x_iald (pc := 20) B dX2_bestPlace_20 hv ?_
    rcases xite h with ⟨hc, h⟩ | ⟨hc, h⟩
    · refine x_icmp_ge_t (tgt := 56) (pc := 21) B dX2_bestPlace_21 (by decide) hc ?_
      refine x_iload_n (pc := 56) B 1 dX2_bestPlace_56 rfl rfl ?_
      exact x_iret (pc := 57) B hR dX2_bestPlace_57 (xzI _) h
    · refine x_icmp_ge_f (pc := 21) B 56 dX2_bestPlace_21 (by decide) hc ?_
      refine x_aload_n (pc := 24) B 0 dX2_bestPlace_24 rfl rfl ?_
      refine x_iload (pc := 25) B 3 dX2_bestPlace_25 rfl ?_
      obtain ⟨q4, hq, h⟩ := xbind h
      refine x_callV1 (st := []) (pc := 27) B dX2_bestPlace_27 (eX2_receiverSumAt hq) xt_445 xt_56 np_X2_receiverSumAt hy_X2_receiverSumAt (Nat.le_of_ble_eq_true rfl) (Nat.le_of_ble_eq_true rfl) (Nat.le_of_ble_eq_true rfl) xt_443 xt_444 xt_442 rfl (iX2_receiverSumAt hq) rfl ?_
      refine x_istore (L1 := [(5, .int q4.1), (0, .ref a0), (2, .int i2), (3, .int i3), (4, .int i4)]) (pc := 30) B dX2_bestPlace_30 (by decide) rfl ?_
      refine x_iload_n (pc := 32) B 2 dX2_bestPlace_32 rfl rfl ?_
      refine x_bipush (pc := 33) B dX2_bestPlace_33 xk_bipush_m6 ?_
      rcases xite h with ⟨hc, h⟩ | ⟨hc, h⟩
      · refine x_icmp_eq_t (tgt := 44) (pc := 35) B dX2_bestPlace_35 (by decide) hc ?_
        refine x_iload (pc := 44) B 4 dX2_bestPlace_44 rfl ?_
        refine x_istore_n (L1 := [(2, .int i4), (5, .int q4.1), (0, .ref a0), (3, .int i3), (4, .int i4)]) (pc := 46) B dX2_bestPlace_46 rfl (by decide) rfl ?_
        refine x_iload (pc := 47) B 1 dX2_bestPlace_47 rfl ?_
        refine x_istore_n (L1 := [(3, .int q4.1), (2, .int i4), (5, .int q4.1), (0, .ref a0), (4, .int i4)]) (pc := 49) B dX2_bestPlace_49 rfl (by decide) rfl ?_
        refine x_iinc (L1 := [(4, .int (i4 + (1 : Int32))), (3, .int q4.1), (2, .int i4), (5, .int q4.1), (0, .ref a0)]) (pc := 50) B 4 dX2_bestPlace_50 rfl (congrArg _ xk_iconst_1) (by decide) rfl ?_
        refine x_goto (tgt := 13) (pc := 53) B dX2_bestPlace_53 (by decide) ?_
        refine x_sub (L1 := [(0, .ref a0), (2, .int i4), (3, .int q4.1), (4, .int (i4 + (1 : Int32)))]) [4, 2, 1, 0] rfl ?_
        exact ih a0 i4 q4.1 (i4 + (1 : Int32)) q4.2 h
      · refine x_icmp_eq_f (pc := 35) B 44 dX2_bestPlace_35 (by decide) hc ?_
        refine x_iload (pc := 38) B 0 dX2_bestPlace_38 rfl ?_
        refine x_iload_n (pc := 40) B 3 dX2_bestPlace_40 rfl rfl ?_
        rcases xite h with ⟨hc, h⟩ | ⟨hc, h⟩
        · refine x_icmp_le_t (tgt := 50) (pc := 41) B dX2_bestPlace_41 (by decide) hc ?_
          refine x_iinc (L1 := [(4, .int (i4 + (1 : Int32))), (5, .int q4.1), (0, .ref a0), (2, .int i2), (3, .int i3)]) (pc := 50) B 4 dX2_bestPlace_50 rfl (congrArg _ xk_iconst_1) (by decide) rfl ?_
          refine x_goto (tgt := 13) (pc := 53) B dX2_bestPlace_53 (by decide) ?_
          refine x_sub (L1 := [(0, .ref a0), (2, .int i2), (3, .int i3), (4, .int (i4 + (1 : Int32)))]) [2, 3, 4, 0] rfl ?_
          exact ih a0 i2 i3 (i4 + (1 : Int32)) q4.2 h
        · refine x_icmp_le_f (pc := 41) B 50 dX2_bestPlace_41 (by decide) hc ?_
          refine x_iload (pc := 44) B 4 dX2_bestPlace_44 rfl ?_
          refine x_istore_n (L1 := [(2, .int i4), (5, .int q4.1), (0, .ref a0), (3, .int i3), (4, .int i4)]) (pc := 46) B dX2_bestPlace_46 rfl (by decide) rfl ?_
          refine x_iload (pc := 47) B 1 dX2_bestPlace_47 rfl ?_
          refine x_istore_n (L1 := [(3, .int q4.1), (2, .int i4), (5, .int q4.1), (0, .ref a0), (4, .int i4)]) (pc := 49) B dX2_bestPlace_49 rfl (by decide) rfl ?_
          refine x_iinc (L1 := [(4, .int (i4 + (1 : Int32))), (3, .int q4.1), (2, .int i4), (5, .int q4.1), (0, .ref a0)]) (pc := 50) B 4 dX2_bestPlace_50 rfl (congrArg _ xk_iconst_1) (by decide) rfl ?_
          refine x_goto (tgt := 13) (pc := 53) B dX2_bestPlace_53 (by decide) ?_
          refine x_sub (L1 := [(0, .ref a0), (2, .int i4), (3, .int q4.1), (4, .int (i4 + (1 : Int32)))]) [4, 2, 1, 0] rfl ?_
          exact ih a0 i4 q4.1 (i4 + (1 : Int32)) q4.2 h
def fX2_bestPlace (a0 : Nat) (a1 : Nat) (w : XW) : Option (Int32 × XW) := if xis w a0 2 = true then
  (fX2_look a0 a1 w).bind fun q1 =>
  fX2_bestPlace_13 1000 a0 (-6 : Int32) (0 : Int32) (0 : Int32) q1
  else none
theorem iX2_bestPlace {a0 : Nat} {a1 : Nat} {w : XW} {R9 : (Int32 × XW)} (h : fX2_bestPlace a0 a1 w = some R9) : xis w a0 2 = true := by
  unfold fX2_bestPlace at h
  rcases xite h with ⟨hc, h⟩ | ⟨hc, h⟩
  · exact hc
  · exact absurd h (by simp)
theorem np_X2_bestPlace : (parseMethodDescriptor yX2_bestPlace.desc).map (fun d => d.parameters.length) = some 1 := by decide +kernel
theorem hy_X2_bestPlace : yX2_bestPlace.cls ≠ "java/lang/invoke/MethodHandle" ∧ yX2_bestPlace.cls ≠ "java/lang/invoke/VarHandle" := ⟨by decide +kernel, by decide +kernel⟩
set_option maxRecDepth 20000 in
theorem eX2_bestPlace {cx : CX} {a0 : Nat} {a1 : Nat} {w : XW} {R9 : (Int32 × XW)} (h : fX2_bestPlace a0 a1 w = some R9) : Ct yX2_bestPlace cX2_bestPlace 6 (some .int) 6 149 cx [.ref a0, .ref a1] w (some (.int R9.1)) R9.2 := by
  refine Ct_of (by decide +kernel) (Nat.le_of_ble_eq_true rfl) (fun K B hR => ?_)
  rw [fX2_bestPlace] at h
  show Wx K cx 6 w.length 0 [(0, .ref a0), (1, .ref a1)] [] w
  rcases xite h with ⟨hc, h⟩ | ⟨hc, h⟩
  · skip
    refine x_aload_n (pc := 0) B 0 dX2_bestPlace_0 rfl rfl ?_
    refine x_aload_n (pc := 1) B 1 dX2_bestPlace_1 rfl rfl ?_
    obtain ⟨q1, hq, h⟩ := xbind h
    refine x_callV0 (st := []) (pc := 2) B dX2_bestPlace_2 (eX2_look hq) xt_228 xt_56 np_X2_look hy_X2_look (Nat.le_of_ble_eq_true rfl) (Nat.le_of_ble_eq_true rfl) (Nat.le_of_ble_eq_true rfl) xt_227 xt_4 xt_225 rfl (iX2_look hq) rfl ?_
    refine x_bipush (pc := 5) B dX2_bestPlace_5 xk_bipush_m6 ?_
    refine x_istore_n (L1 := [(2, .int (-6 : Int32)), (0, .ref a0), (1, .ref a1)]) (pc := 7) B dX2_bestPlace_7 rfl (by decide) rfl ?_
    refine x_iconst (pc := 8) B dX2_bestPlace_8 xk_iconst_0 ?_
    refine x_istore_n (L1 := [(3, .int (0 : Int32)), (2, .int (-6 : Int32)), (0, .ref a0), (1, .ref a1)]) (pc := 9) B dX2_bestPlace_9 rfl (by decide) rfl ?_
    refine x_iconst (pc := 10) B dX2_bestPlace_10 xk_iconst_0 ?_
    refine x_istore (L1 := [(4, .int (0 : Int32)), (3, .int (0 : Int32)), (2, .int (-6 : Int32)), (0, .ref a0), (1, .ref a1)]) (pc := 11) B dX2_bestPlace_11 (by decide) rfl ?_
    refine x_sub (L1 := [(0, .ref a0), (2, .int (-6 : Int32)), (3, .int (0 : Int32)), (4, .int (0 : Int32))]) [3, 2, 1, 0] rfl ?_
    exact pX2_bestPlace_13 B hR 1000 a0 (-6 : Int32) (0 : Int32) (0 : Int32) q1 h
  · exact absurd h (by simp)
