def fL_law_18 (n0 : Nat) (xs : Nat → Int32) : Nat → Nat → Nat → Int32 → XW → Option (Int32 × XW)
  | 0, _, _, _, _ => none
  | g + 1, a1, a2, i3, w =>
    if ((Int32.ofNat n0) - (6 : Int32)) < i3 then
      some ((1 : Int32), w)
    else
    (xsc n0 xs i3).bind fun v2 =>
    if (v2 &&& (31 : Int32)) = (0 : Int32) then
      (xsc n0 xs (i3 + (1 : Int32))).bind fun v3 =>
      (xsc n0 xs (i3 + (2 : Int32))).bind fun v4 =>
      (fX3_weight a1 v3 v4 w).bind fun q5 =>
      (xsc n0 xs (i3 + (1 : Int32))).bind fun v6 =>
      (xsc n0 xs (i3 + (2 : Int32))).bind fun v7 =>
      (fX4_weight a2 v6 v7 q5.2).bind fun q8 =>
      if q5.1 = q8.1 then
        fL_law_18 n0 xs g a1 a2 (i3 + (6 : Int32)) q8.2
      else
      some ((0 : Int32), q8.2)
    else
    if (v2 &&& (31 : Int32)) = (1 : Int32) then
      (xsc n0 xs (i3 + (1 : Int32))).bind fun v9 =>
      (xsc n0 xs (i3 + (2 : Int32))).bind fun v10 =>
      (xsc n0 xs (i3 + (3 : Int32))).bind fun v11 =>
      (xsc n0 xs (i3 + (4 : Int32))).bind fun v12 =>
      (xsc n0 xs (i3 + (5 : Int32))).bind fun v13 =>
      (fX3_pay a1 v9 v10 v11 v12 v13 w).bind fun q14 =>
      (xsc n0 xs (i3 + (1 : Int32))).bind fun v15 =>
      (xsc n0 xs (i3 + (2 : Int32))).bind fun v16 =>
      (xsc n0 xs (i3 + (3 : Int32))).bind fun v17 =>
      (xsc n0 xs (i3 + (4 : Int32))).bind fun v18 =>
      (xsc n0 xs (i3 + (5 : Int32))).bind fun v19 =>
      (fX4_pay a2 v15 v16 v17 v18 v19 q14.2).bind fun q20 =>
      if q14.1 = q20.1 then
        fL_law_18 n0 xs g a1 a2 (i3 + (6 : Int32)) q20.2
      else
      some ((0 : Int32), q20.2)
    else
    if (v2 &&& (31 : Int32)) = (2 : Int32) then
      (xsc n0 xs (i3 + (1 : Int32))).bind fun v21 =>
      (xsc n0 xs (i3 + (2 : Int32))).bind fun v22 =>
      (xsc n0 xs (i3 + (3 : Int32))).bind fun v23 =>
      (fX3_believe a1 v21 v22 v23 w).bind fun q24 =>
      (xsc n0 xs (i3 + (1 : Int32))).bind fun v25 =>
      (xsc n0 xs (i3 + (2 : Int32))).bind fun v26 =>
      (xsc n0 xs (i3 + (3 : Int32))).bind fun v27 =>
      (fX4_believe a2 v25 v26 v27 q24.2).bind fun q28 =>
      if q24.1 = q28.1 then
        fL_law_18 n0 xs g a1 a2 (i3 + (6 : Int32)) q28.2
      else
      some ((0 : Int32), q28.2)
    else
    if (v2 &&& (31 : Int32)) = (3 : Int32) then
      (xsc n0 xs (i3 + (1 : Int32))).bind fun v29 =>
      (xsc n0 xs (i3 + (2 : Int32))).bind fun v30 =>
      (fX3_send a1 v29 v30 w).bind fun q31 =>
      (xsc n0 xs (i3 + (1 : Int32))).bind fun v32 =>
      (xsc n0 xs (i3 + (2 : Int32))).bind fun v33 =>
      (fX4_send a2 v32 v33 q31.2).bind fun q34 =>
      if q31.1 = q34.1 then
        fL_law_18 n0 xs g a1 a2 (i3 + (6 : Int32)) q34.2
      else
      some ((0 : Int32), q34.2)
    else
    if (v2 &&& (31 : Int32)) = (4 : Int32) then
      (xsc n0 xs (i3 + (1 : Int32))).bind fun v35 =>
      (xsc n0 xs (i3 + (2 : Int32))).bind fun v36 =>
      (fX3_answer a1 v35 v36 w).bind fun q37 =>
      (xsc n0 xs (i3 + (1 : Int32))).bind fun v38 =>
      (xsc n0 xs (i3 + (2 : Int32))).bind fun v39 =>
      (fX4_answer a2 v38 v39 q37.2).bind fun q40 =>
      if q37.1 = q40.1 then
        fL_law_18 n0 xs g a1 a2 (i3 + (6 : Int32)) q40.2
      else
      some ((0 : Int32), q40.2)
    else
    if (v2 &&& (31 : Int32)) = (5 : Int32) then
      (xsc n0 xs (i3 + (1 : Int32))).bind fun v41 =>
      (fX3_adopt a1 v41 w).bind fun q42 =>
      (xsc n0 xs (i3 + (1 : Int32))).bind fun v43 =>
      (fX4_adopt a2 v43 q42.2).bind fun q44 =>
      if q42.1 = q44.1 then
        fL_law_18 n0 xs g a1 a2 (i3 + (6 : Int32)) q44.2
      else
      some ((0 : Int32), q44.2)
    else
    if (v2 &&& (31 : Int32)) = (6 : Int32) then
      (xsc n0 xs (i3 + (1 : Int32))).bind fun v45 =>
      (xsc n0 xs (i3 + (2 : Int32))).bind fun v46 =>
      (xsc n0 xs (i3 + (3 : Int32))).bind fun v47 =>
      (xsc n0 xs (i3 + (4 : Int32))).bind fun v48 =>
      (fX3_payoff a1 v45 v46 v47 v48 w).bind fun q49 =>
      (xsc n0 xs (i3 + (1 : Int32))).bind fun v50 =>
      (xsc n0 xs (i3 + (2 : Int32))).bind fun v51 =>
      (xsc n0 xs (i3 + (3 : Int32))).bind fun v52 =>
      (xsc n0 xs (i3 + (4 : Int32))).bind fun v53 =>
      (fX4_payoff a2 v50 v51 v52 v53 q49.2).bind fun q54 =>
      if q49.1 = q54.1 then
        fL_law_18 n0 xs g a1 a2 (i3 + (6 : Int32)) q54.2
      else
      some ((0 : Int32), q54.2)
    else
    if (v2 &&& (31 : Int32)) = (7 : Int32) then
      (xsc n0 xs (i3 + (1 : Int32))).bind fun v55 =>
      (xsc n0 xs (i3 + (2 : Int32))).bind fun v56 =>
      (fX3_ofType a1 v55 v56 w).bind fun q57 =>
      (xsc n0 xs (i3 + (1 : Int32))).bind fun v58 =>
      (xsc n0 xs (i3 + (2 : Int32))).bind fun v59 =>
      (fX4_ofType a2 v58 v59 q57.2).bind fun q60 =>
      if q57.1 = q60.1 then
        fL_law_18 n0 xs g a1 a2 (i3 + (6 : Int32)) q60.2
      else
      some ((0 : Int32), q60.2)
    else
    if (v2 &&& (31 : Int32)) = (8 : Int32) then
      (xsc n0 xs (i3 + (1 : Int32))).bind fun v61 =>
      (xsc n0 xs (i3 + (2 : Int32))).bind fun v62 =>
      (fX3_ofMessage a1 v61 v62 w).bind fun q63 =>
      (xsc n0 xs (i3 + (1 : Int32))).bind fun v64 =>
      (xsc n0 xs (i3 + (2 : Int32))).bind fun v65 =>
      (fX4_ofMessage a2 v64 v65 q63.2).bind fun q66 =>
      if q63.1 = q66.1 then
        fL_law_18 n0 xs g a1 a2 (i3 + (6 : Int32)) q66.2
      else
      some ((0 : Int32), q66.2)
    else
    if (v2 &&& (31 : Int32)) = (9 : Int32) then
      (xsc n0 xs (i3 + (1 : Int32))).bind fun v67 =>
      (xsc n0 xs (i3 + (2 : Int32))).bind fun v68 =>
      (xsc n0 xs (i3 + (3 : Int32))).bind fun v69 =>
      (fX3_belief a1 v67 v68 v69 w).bind fun q70 =>
      (xsc n0 xs (i3 + (1 : Int32))).bind fun v71 =>
      (xsc n0 xs (i3 + (2 : Int32))).bind fun v72 =>
      (xsc n0 xs (i3 + (3 : Int32))).bind fun v73 =>
      (fX4_belief a2 v71 v72 v73 q70.2).bind fun q74 =>
      if q70.1 = q74.1 then
        fL_law_18 n0 xs g a1 a2 (i3 + (6 : Int32)) q74.2
      else
      some ((0 : Int32), q74.2)
    else
    if (v2 &&& (31 : Int32)) = (10 : Int32) then
      (xsc n0 xs (i3 + (1 : Int32))).bind fun v75 =>
      (xsc n0 xs (i3 + (2 : Int32))).bind fun v76 =>
      (xsc n0 xs (i3 + (3 : Int32))).bind fun v77 =>
      (fX3_mean a1 v75 v76 v77 w).bind fun q78 =>
      (xsc n0 xs (i3 + (1 : Int32))).bind fun v79 =>
      (xsc n0 xs (i3 + (2 : Int32))).bind fun v80 =>
      (xsc n0 xs (i3 + (3 : Int32))).bind fun v81 =>
      (fX4_mean a2 v79 v80 v81 q78.2).bind fun q82 =>
      if q78.1 = q82.1 then
        fL_law_18 n0 xs g a1 a2 (i3 + (6 : Int32)) q82.2
      else
      some ((0 : Int32), q82.2)
    else
    if (v2 &&& (31 : Int32)) = (11 : Int32) then
      (xsc n0 xs (i3 + (1 : Int32))).bind fun v83 =>
      (fX3_why a1 v83 w).bind fun q84 =>
      (xsc n0 xs (i3 + (1 : Int32))).bind fun v85 =>
      (fX4_why a2 v85 q84.2).bind fun q86 =>
      if q84.1 = q86.1 then
        fL_law_18 n0 xs g a1 a2 (i3 + (6 : Int32)) q86.2
      else
      some ((0 : Int32), q86.2)
    else
    if (v2 &&& (31 : Int32)) = (12 : Int32) then
      (xsc n0 xs (i3 + (1 : Int32))).bind fun v87 =>
      (fX3_count a1 v87 w).bind fun q88 =>
      (xsc n0 xs (i3 + (1 : Int32))).bind fun v89 =>
      (fX4_count a2 v89 q88.2).bind fun q90 =>
      if q88.1 = q90.1 then
        fL_law_18 n0 xs g a1 a2 (i3 + (6 : Int32)) q90.2
      else
      some ((0 : Int32), q90.2)
    else
    if (v2 &&& (31 : Int32)) = (13 : Int32) then
      (xsc n0 xs (i3 + (1 : Int32))).bind fun v91 =>
      (fX3_plans a1 v91 w).bind fun q92 =>
      (xsc n0 xs (i3 + (1 : Int32))).bind fun v93 =>
      (fX4_plans a2 v93 q92.2).bind fun q94 =>
      if q92.1 = q94.1 then
        fL_law_18 n0 xs g a1 a2 (i3 + (6 : Int32)) q94.2
      else
      some ((0 : Int32), q94.2)
    else
    if (v2 &&& (31 : Int32)) = (14 : Int32) then
      (xsc n0 xs (i3 + (1 : Int32))).bind fun v95 =>
      (fX3_planAt a1 v95 w).bind fun q96 =>
      (xsc n0 xs (i3 + (1 : Int32))).bind fun v97 =>
      (fX4_planAt a2 v97 q96.2).bind fun q98 =>
      if q96.1 = q98.1 then
        fL_law_18 n0 xs g a1 a2 (i3 + (6 : Int32)) q98.2
      else
      some ((0 : Int32), q98.2)
    else
    if (v2 &&& (31 : Int32)) = (15 : Int32) then
      (xsc n0 xs (i3 + (1 : Int32))).bind fun v99 =>
      (fX3_bestAnswer a1 v99 w).bind fun q100 =>
      (xsc n0 xs (i3 + (1 : Int32))).bind fun v101 =>
      (fX4_bestAnswer a2 v101 q100.2).bind fun q102 =>
      if q100.1 = q102.1 then
        fL_law_18 n0 xs g a1 a2 (i3 + (6 : Int32)) q102.2
      else
      some ((0 : Int32), q102.2)
    else
    if (v2 &&& (31 : Int32)) = (16 : Int32) then
      (xsc n0 xs (i3 + (1 : Int32))).bind fun v103 =>
      (fX3_bestPlan a1 v103 w).bind fun q104 =>
      (xsc n0 xs (i3 + (1 : Int32))).bind fun v105 =>
      (fX4_bestPlan a2 v105 q104.2).bind fun q106 =>
      if q104.1 = q106.1 then
        fL_law_18 n0 xs g a1 a2 (i3 + (6 : Int32)) q106.2
      else
      some ((0 : Int32), q106.2)
    else
    if (v2 &&& (31 : Int32)) = (17 : Int32) then
      (xsc n0 xs (i3 + (1 : Int32))).bind fun v107 =>
      (xsc n0 xs (i3 + (2 : Int32))).bind fun v108 =>
      (fX3_put a1 ((((v107).toInt64) <<< (((32 : Int32)).toInt64 &&& 63)) ||| (((v108).toInt64) &&& (4294967295 : Int64))) w).bind fun q109 =>
      (xsc n0 xs (i3 + (1 : Int32))).bind fun v110 =>
      (xsc n0 xs (i3 + (2 : Int32))).bind fun v111 =>
      (fX4_put a2 ((((v110).toInt64) <<< (((32 : Int32)).toInt64 &&& 63)) ||| (((v111).toInt64) &&& (4294967295 : Int64))) q109.2).bind fun q112 =>
      if q109.1 = q112.1 then
        fL_law_18 n0 xs g a1 a2 (i3 + (6 : Int32)) q112.2
      else
      some ((0 : Int32), q112.2)
    else
    if (v2 &&& (31 : Int32)) = (18 : Int32) then
      (fX3_wipe a1 w).bind fun q113 =>
      (fX4_wipe a2 q113.2).bind fun q114 =>
      if q113.1 = q114.1 then
        fL_law_18 n0 xs g a1 a2 (i3 + (6 : Int32)) q114.2
      else
      some ((0 : Int32), q114.2)
    else
    if (v2 &&& (31 : Int32)) = (19 : Int32) then
      (fX3_fault a1 w).bind fun q115 =>
      (fX4_fault a2 q115.2).bind fun q116 =>
      if q115.1 = q116.1 then
        fL_law_18 n0 xs g a1 a2 (i3 + (6 : Int32)) q116.2
      else
      some ((0 : Int32), q116.2)
    else
    if (v2 &&& (31 : Int32)) = (20 : Int32) then
      (fX3_carryOut a1 w).bind fun q117 =>
      (fX4_carryOut a2 q117.2).bind fun q118 =>
      if q117.1 = q118.1 then
        fL_law_18 n0 xs g a1 a2 (i3 + (6 : Int32)) q118.2
      else
      some ((0 : Int32), q118.2)
    else
    if (v2 &&& (31 : Int32)) = (21 : Int32) then
      (fX3_undo a1 w).bind fun q119 =>
      (fX4_undo a2 q119.2).bind fun q120 =>
      if q119.1 = q120.1 then
        fL_law_18 n0 xs g a1 a2 (i3 + (6 : Int32)) q120.2
      else
      some ((0 : Int32), q120.2)
    else
    if (v2 &&& (31 : Int32)) = (22 : Int32) then
      (xsc n0 xs (i3 + (1 : Int32))).bind fun v121 =>
      (fX3_save a1 v121 w).bind fun q122 =>
      (xsc n0 xs (i3 + (1 : Int32))).bind fun v123 =>
      (fX4_save a2 v123 q122.2).bind fun q124 =>
      if q122.1 = q124.1 then
        fL_law_18 n0 xs g a1 a2 (i3 + (6 : Int32)) q124.2
      else
      some ((0 : Int32), q124.2)
    else
    if (v2 &&& (31 : Int32)) = (23 : Int32) then
      (xsc n0 xs (i3 + (1 : Int32))).bind fun v125 =>
      (fX3_restore a1 v125 w).bind fun q126 =>
      (xsc n0 xs (i3 + (1 : Int32))).bind fun v127 =>
      (fX4_restore a2 v127 q126.2).bind fun q128 =>
      if q126.1 = q128.1 then
        fL_law_18 n0 xs g a1 a2 (i3 + (6 : Int32)) q128.2
      else
      some ((0 : Int32), q128.2)
    else
    fL_law_18 n0 xs g a1 a2 (i3 + (6 : Int32)) w
set_option maxRecDepth 20000 in
theorem pL_law_18 {K : KX} {cx : CX} {nn n0 : Nat} {xs : Nat → Int32} {R9 : Int32 × XW} (B : XB K cx RL cL_law 4 nn 9 213) (hX : XS K cx n0 xs) (hR : XRL K) (h1 : R9.1 = 1) : ∀ (g : Nat) (a1 : Nat) (a2 : Nat) (i3 : Int32) (w : XW), fL_law_18 n0 xs g a1 a2 i3 w = some R9 → Wx K cx 4 nn 18 [(0, .ref 4000), (1, .ref a1), (2, .ref a2), (3, .int i3)] [] w := by
  intro g
  induction g with
  | zero =>
    intro a1 a2 i3 w h
    exact absurd (show (none : Option (Int32 × XW)) = some R9 from h) (by simp)
  | succ g ih =>
    intro a1 a2 i3 w h
    rw [fL_law_18] at h
    refine x_iload_n (pc := 18) B 3 dL_law_18 rfl rfl ?_
    refine x_aload_n (pc := 19) B 0 dL_law_19 rfl rfl ?_
    refine x_slen (pc := 20) B hX dL_law_20 ?_
    refine x_bipush (pc := 21) B dL_law_21 xk_bipush_6 ?_
    refine x_isub (pc := 23) B dL_law_23 ?_
    rcases xite h with ⟨hc, h⟩ | ⟨hc, h⟩
    · refine x_icmp_gt_t (tgt := 872) (pc := 24) B dL_law_24 (by decide) hc ?_
      refine x_iconst (pc := 872) B dL_law_872 xk_iconst_1 ?_
      exact x_lret (pc := 873) B hR h1 dL_law_873 h
    · refine x_icmp_gt_f (pc := 24) B 872 dL_law_24 (by decide) hc ?_
      refine x_aload_n (pc := 27) B 0 dL_law_27 rfl rfl ?_
      refine x_iload_n (pc := 28) B 3 dL_law_28 rfl rfl ?_
      obtain ⟨v2, hv, h⟩ := xbind h
      refine x_sld (pc := 29) B hX dL_law_29 hv ?_
      refine x_bipush (pc := 30) B dL_law_30 xk_bipush_31 ?_
      refine x_iand (pc := 32) B dL_law_32 ?_
      rcases xite h with ⟨hc0, h⟩ | ⟨hc0, h⟩
      · refine x_tabIn (tgt := 144) (off := 111) (pc := 33) B dL_law_33 (by rw [hc0]; decide +kernel) (by rw [hc0]; decide +kernel) (by rw [hc0]; decide +kernel) (by decide) ?_
        refine x_aload_n (pc := 144) B 1 dL_law_144 rfl rfl ?_
        refine x_aload_n (pc := 145) B 0 dL_law_145 rfl rfl ?_
        refine x_iload_n (pc := 146) B 3 dL_law_146 rfl rfl ?_
        refine x_iconst (pc := 147) B dL_law_147 xk_iconst_1 ?_
        refine x_iadd (pc := 148) B dL_law_148 ?_
        obtain ⟨v3, hv, h⟩ := xbind h
        refine x_sld (pc := 149) B hX dL_law_149 hv ?_
        refine x_aload_n (pc := 150) B 0 dL_law_150 rfl rfl ?_
        refine x_iload_n (pc := 151) B 3 dL_law_151 rfl rfl ?_
        refine x_iconst (pc := 152) B dL_law_152 xk_iconst_2 ?_
        refine x_iadd (pc := 153) B dL_law_153 ?_
        obtain ⟨v4, hv, h⟩ := xbind h
        refine x_sld (pc := 154) B hX dL_law_154 hv ?_
        obtain ⟨q5, hq, h⟩ := xbind h
        refine x_callV1 (st := []) (pc := 155) B dL_law_155 (eX3_weight hq) xt_135 xt_53 np_X3_weight hy_X3_weight (Nat.le_of_ble_eq_true rfl) (Nat.le_of_ble_eq_true rfl) (Nat.le_of_ble_eq_true rfl) xt_133 xt_134 xt_132 rfl (iX3_weight hq) rfl ?_
        refine x_aload_n (pc := 158) B 2 dL_law_158 rfl rfl ?_
        refine x_aload_n (pc := 159) B 0 dL_law_159 rfl rfl ?_
        refine x_iload_n (pc := 160) B 3 dL_law_160 rfl rfl ?_
        refine x_iconst (pc := 161) B dL_law_161 xk_iconst_1 ?_
        refine x_iadd (pc := 162) B dL_law_162 ?_
        obtain ⟨v6, hv, h⟩ := xbind h
        refine x_sld (pc := 163) B hX dL_law_163 hv ?_
        refine x_aload_n (pc := 164) B 0 dL_law_164 rfl rfl ?_
        refine x_iload_n (pc := 165) B 3 dL_law_165 rfl rfl ?_
        refine x_iconst (pc := 166) B dL_law_166 xk_iconst_2 ?_
        refine x_iadd (pc := 167) B dL_law_167 ?_
        obtain ⟨v7, hv, h⟩ := xbind h
        refine x_sld (pc := 168) B hX dL_law_168 hv ?_
        obtain ⟨q8, hq, h⟩ := xbind h
        refine x_callV1 (st := [.int q5.1]) (pc := 169) B dL_law_169 (eX4_weight hq) xt_655 xt_58 np_X4_weight hy_X4_weight (Nat.le_of_ble_eq_true rfl) (Nat.le_of_ble_eq_true rfl) (Nat.le_of_ble_eq_true rfl) xt_653 xt_654 xt_652 rfl (iX4_weight hq) rfl ?_
        rcases xite h with ⟨hc, h⟩ | ⟨hc, h⟩
        · refine x_icmp_eq_t (tgt := 866) (pc := 172) B dL_law_172 (by decide) hc ?_
          refine x_iinc (L1 := [(3, .int (i3 + (6 : Int32))), (0, .ref 4000), (1, .ref a1), (2, .ref a2)]) (pc := 866) B 3 dL_law_866 rfl (congrArg _ xk_iconst_6) (by decide) rfl ?_
          refine x_goto (tgt := 18) (pc := 869) B dL_law_869 (by decide) ?_
          refine x_sub (L1 := [(0, .ref 4000), (1, .ref a1), (2, .ref a2), (3, .int (i3 + (6 : Int32)))]) [1, 2, 3, 0] rfl ?_
          exact ih a1 a2 (i3 + (6 : Int32)) q8.2 h
        · refine x_icmp_eq_f (pc := 172) B 866 dL_law_172 (by decide) hc ?_
          refine x_iconst (pc := 175) B dL_law_175 xk_iconst_0 ?_
          exact x_lret (pc := 176) B hR h1 dL_law_176 h
      · skip
        rcases xite h with ⟨hc1, h⟩ | ⟨hc1, h⟩
        · refine x_tabIn (tgt := 177) (off := 144) (pc := 33) B dL_law_33 (by rw [hc1]; decide +kernel) (by rw [hc1]; decide +kernel) (by rw [hc1]; decide +kernel) (by decide) ?_
          refine x_aload_n (pc := 177) B 1 dL_law_177 rfl rfl ?_
          refine x_aload_n (pc := 178) B 0 dL_law_178 rfl rfl ?_
          refine x_iload_n (pc := 179) B 3 dL_law_179 rfl rfl ?_
          refine x_iconst (pc := 180) B dL_law_180 xk_iconst_1 ?_
          refine x_iadd (pc := 181) B dL_law_181 ?_
          obtain ⟨v9, hv, h⟩ := xbind h
          refine x_sld (pc := 182) B hX dL_law_182 hv ?_
          refine x_aload_n (pc := 183) B 0 dL_law_183 rfl rfl ?_
          refine x_iload_n (pc := 184) B 3 dL_law_184 rfl rfl ?_
          refine x_iconst (pc := 185) B dL_law_185 xk_iconst_2 ?_
          refine x_iadd (pc := 186) B dL_law_186 ?_
          obtain ⟨v10, hv, h⟩ := xbind h
          refine x_sld (pc := 187) B hX dL_law_187 hv ?_
          refine x_aload_n (pc := 188) B 0 dL_law_188 rfl rfl ?_
          refine x_iload_n (pc := 189) B 3 dL_law_189 rfl rfl ?_
          refine x_iconst (pc := 190) B dL_law_190 xk_iconst_3 ?_
          refine x_iadd (pc := 191) B dL_law_191 ?_
          obtain ⟨v11, hv, h⟩ := xbind h
          refine x_sld (pc := 192) B hX dL_law_192 hv ?_
          refine x_aload_n (pc := 193) B 0 dL_law_193 rfl rfl ?_
          refine x_iload_n (pc := 194) B 3 dL_law_194 rfl rfl ?_
          refine x_iconst (pc := 195) B dL_law_195 xk_iconst_4 ?_
          refine x_iadd (pc := 196) B dL_law_196 ?_
          obtain ⟨v12, hv, h⟩ := xbind h
          refine x_sld (pc := 197) B hX dL_law_197 hv ?_
          refine x_aload_n (pc := 198) B 0 dL_law_198 rfl rfl ?_
          refine x_iload_n (pc := 199) B 3 dL_law_199 rfl rfl ?_
          refine x_iconst (pc := 200) B dL_law_200 xk_iconst_5 ?_
          refine x_iadd (pc := 201) B dL_law_201 ?_
          obtain ⟨v13, hv, h⟩ := xbind h
          refine x_sld (pc := 202) B hX dL_law_202 hv ?_
          obtain ⟨q14, hq, h⟩ := xbind h
          refine x_callV1 (st := []) (pc := 203) B dL_law_203 (eX3_pay hq) xt_183 xt_53 np_X3_pay hy_X3_pay (Nat.le_of_ble_eq_true rfl) (Nat.le_of_ble_eq_true rfl) (Nat.le_of_ble_eq_true rfl) xt_181 xt_182 xt_180 rfl (iX3_pay hq) rfl ?_
          refine x_aload_n (pc := 206) B 2 dL_law_206 rfl rfl ?_
          refine x_aload_n (pc := 207) B 0 dL_law_207 rfl rfl ?_
          refine x_iload_n (pc := 208) B 3 dL_law_208 rfl rfl ?_
          refine x_iconst (pc := 209) B dL_law_209 xk_iconst_1 ?_
          refine x_iadd (pc := 210) B dL_law_210 ?_
          obtain ⟨v15, hv, h⟩ := xbind h
          refine x_sld (pc := 211) B hX dL_law_211 hv ?_
          refine x_aload_n (pc := 212) B 0 dL_law_212 rfl rfl ?_
          refine x_iload_n (pc := 213) B 3 dL_law_213 rfl rfl ?_
          refine x_iconst (pc := 214) B dL_law_214 xk_iconst_2 ?_
          refine x_iadd (pc := 215) B dL_law_215 ?_
          obtain ⟨v16, hv, h⟩ := xbind h
          refine x_sld (pc := 216) B hX dL_law_216 hv ?_
          refine x_aload_n (pc := 217) B 0 dL_law_217 rfl rfl ?_
          refine x_iload_n (pc := 218) B 3 dL_law_218 rfl rfl ?_
          refine x_iconst (pc := 219) B dL_law_219 xk_iconst_3 ?_
          refine x_iadd (pc := 220) B dL_law_220 ?_
          obtain ⟨v17, hv, h⟩ := xbind h
          refine x_sld (pc := 221) B hX dL_law_221 hv ?_
          refine x_aload_n (pc := 222) B 0 dL_law_222 rfl rfl ?_
          refine x_iload_n (pc := 223) B 3 dL_law_223 rfl rfl ?_
          refine x_iconst (pc := 224) B dL_law_224 xk_iconst_4 ?_
          refine x_iadd (pc := 225) B dL_law_225 ?_
          obtain ⟨v18, hv, h⟩ := xbind h
          refine x_sld (pc := 226) B hX dL_law_226 hv ?_
          refine x_aload_n (pc := 227) B 0 dL_law_227 rfl rfl ?_
          refine x_iload_n (pc := 228) B 3 dL_law_228 rfl rfl ?_
          refine x_iconst (pc := 229) B dL_law_229 xk_iconst_5 ?_
          refine x_iadd (pc := 230) B dL_law_230 ?_
          obtain ⟨v19, hv, h⟩ := xbind h
          refine x_sld (pc := 231) B hX dL_law_231 hv ?_
          obtain ⟨q20, hq, h⟩ := xbind h
          refine x_callV1 (st := [.int q14.1]) (pc := 232) B dL_law_232 (eX4_pay hq) xt_670 xt_58 np_X4_pay hy_X4_pay (Nat.le_of_ble_eq_true rfl) (Nat.le_of_ble_eq_true rfl) (Nat.le_of_ble_eq_true rfl) xt_668 xt_669 xt_667 rfl (iX4_pay hq) rfl ?_
          rcases xite h with ⟨hc, h⟩ | ⟨hc, h⟩
          · refine x_icmp_eq_t (tgt := 866) (pc := 235) B dL_law_235 (by decide) hc ?_
            refine x_iinc (L1 := [(3, .int (i3 + (6 : Int32))), (0, .ref 4000), (1, .ref a1), (2, .ref a2)]) (pc := 866) B 3 dL_law_866 rfl (congrArg _ xk_iconst_6) (by decide) rfl ?_
            refine x_goto (tgt := 18) (pc := 869) B dL_law_869 (by decide) ?_
            refine x_sub (L1 := [(0, .ref 4000), (1, .ref a1), (2, .ref a2), (3, .int (i3 + (6 : Int32)))]) [1, 2, 3, 0] rfl ?_
            exact ih a1 a2 (i3 + (6 : Int32)) q20.2 h
          · refine x_icmp_eq_f (pc := 235) B 866 dL_law_235 (by decide) hc ?_
            refine x_iconst (pc := 238) B dL_law_238 xk_iconst_0 ?_
            exact x_lret (pc := 239) B hR h1 dL_law_239 h
        · skip
          rcases xite h with ⟨hc2, h⟩ | ⟨hc2, h⟩
          · refine x_tabIn (tgt := 240) (off := 207) (pc := 33) B dL_law_33 (by rw [hc2]; decide +kernel) (by rw [hc2]; decide +kernel) (by rw [hc2]; decide +kernel) (by decide) ?_
            refine x_aload_n (pc := 240) B 1 dL_law_240 rfl rfl ?_
            refine x_aload_n (pc := 241) B 0 dL_law_241 rfl rfl ?_
            refine x_iload_n (pc := 242) B 3 dL_law_242 rfl rfl ?_
            refine x_iconst (pc := 243) B dL_law_243 xk_iconst_1 ?_
            refine x_iadd (pc := 244) B dL_law_244 ?_
            obtain ⟨v21, hv, h⟩ := xbind h
            refine x_sld (pc := 245) B hX dL_law_245 hv ?_
            refine x_aload_n (pc := 246) B 0 dL_law_246 rfl rfl ?_
            refine x_iload_n (pc := 247) B 3 dL_law_247 rfl rfl ?_
            refine x_iconst (pc := 248) B dL_law_248 xk_iconst_2 ?_
            refine x_iadd (pc := 249) B dL_law_249 ?_
            obtain ⟨v22, hv, h⟩ := xbind h
            refine x_sld (pc := 250) B hX dL_law_250 hv ?_
            refine x_aload_n (pc := 251) B 0 dL_law_251 rfl rfl ?_
            refine x_iload_n (pc := 252) B 3 dL_law_252 rfl rfl ?_
            refine x_iconst (pc := 253) B dL_law_253 xk_iconst_3 ?_
            refine x_iadd (pc := 254) B dL_law_254 ?_
            obtain ⟨v23, hv, h⟩ := xbind h
            refine x_sld (pc := 255) B hX dL_law_255 hv ?_
            obtain ⟨q24, hq, h⟩ := xbind h
            refine x_callV1 (st := []) (pc := 256) B dL_law_256 (eX3_believe hq) xt_190 xt_53 np_X3_believe hy_X3_believe (Nat.le_of_ble_eq_true rfl) (Nat.le_of_ble_eq_true rfl) (Nat.le_of_ble_eq_true rfl) xt_188 xt_189 xt_187 rfl (iX3_believe hq) rfl ?_
            refine x_aload_n (pc := 259) B 2 dL_law_259 rfl rfl ?_
            refine x_aload_n (pc := 260) B 0 dL_law_260 rfl rfl ?_
            refine x_iload_n (pc := 261) B 3 dL_law_261 rfl rfl ?_
            refine x_iconst (pc := 262) B dL_law_262 xk_iconst_1 ?_
            refine x_iadd (pc := 263) B dL_law_263 ?_
            obtain ⟨v25, hv, h⟩ := xbind h
            refine x_sld (pc := 264) B hX dL_law_264 hv ?_
            refine x_aload_n (pc := 265) B 0 dL_law_265 rfl rfl ?_
            refine x_iload_n (pc := 266) B 3 dL_law_266 rfl rfl ?_
            refine x_iconst (pc := 267) B dL_law_267 xk_iconst_2 ?_
            refine x_iadd (pc := 268) B dL_law_268 ?_
            obtain ⟨v26, hv, h⟩ := xbind h
            refine x_sld (pc := 269) B hX dL_law_269 hv ?_
            refine x_aload_n (pc := 270) B 0 dL_law_270 rfl rfl ?_
            refine x_iload_n (pc := 271) B 3 dL_law_271 rfl rfl ?_
            refine x_iconst (pc := 272) B dL_law_272 xk_iconst_3 ?_
            refine x_iadd (pc := 273) B dL_law_273 ?_
            obtain ⟨v27, hv, h⟩ := xbind h
            refine x_sld (pc := 274) B hX dL_law_274 hv ?_
            obtain ⟨q28, hq, h⟩ := xbind h
            refine x_callV1 (st := [.int q24.1]) (pc := 275) B dL_law_275 (eX4_believe hq) xt_680 xt_58 np_X4_believe hy_X4_believe (Nat.le_of_ble_eq_true rfl) (Nat.le_of_ble_eq_true rfl) (Nat.le_of_ble_eq_true rfl) xt_678 xt_679 xt_677 rfl (iX4_believe hq) rfl ?_
            rcases xite h with ⟨hc, h⟩ | ⟨hc, h⟩
            · refine x_icmp_eq_t (tgt := 866) (pc := 278) B dL_law_278 (by decide) hc ?_
              refine x_iinc (L1 := [(3, .int (i3 + (6 : Int32))), (0, .ref 4000), (1, .ref a1), (2, .ref a2)]) (pc := 866) B 3 dL_law_866 rfl (congrArg _ xk_iconst_6) (by decide) rfl ?_
              refine x_goto (tgt := 18) (pc := 869) B dL_law_869 (by decide) ?_
              refine x_sub (L1 := [(0, .ref 4000), (1, .ref a1), (2, .ref a2), (3, .int (i3 + (6 : Int32)))]) [1, 2, 3, 0] rfl ?_
              exact ih a1 a2 (i3 + (6 : Int32)) q28.2 h
            · refine x_icmp_eq_f (pc := 278) B 866 dL_law_278 (by decide) hc ?_
              refine x_iconst (pc := 281) B dL_law_281 xk_iconst_0 ?_
              exact x_lret (pc := 282) B hR h1 dL_law_282 h
          · skip
            rcases xite h with ⟨hc3, h⟩ | ⟨hc3, h⟩
            · refine x_tabIn (tgt := 283) (off := 250) (pc := 33) B dL_law_33 (by rw [hc3]; decide +kernel) (by rw [hc3]; decide +kernel) (by rw [hc3]; decide +kernel) (by decide) ?_
              refine x_aload_n (pc := 283) B 1 dL_law_283 rfl rfl ?_
              refine x_aload_n (pc := 284) B 0 dL_law_284 rfl rfl ?_
              refine x_iload_n (pc := 285) B 3 dL_law_285 rfl rfl ?_
              refine x_iconst (pc := 286) B dL_law_286 xk_iconst_1 ?_
              refine x_iadd (pc := 287) B dL_law_287 ?_
              obtain ⟨v29, hv, h⟩ := xbind h
              refine x_sld (pc := 288) B hX dL_law_288 hv ?_
              refine x_aload_n (pc := 289) B 0 dL_law_289 rfl rfl ?_
              refine x_iload_n (pc := 290) B 3 dL_law_290 rfl rfl ?_
              refine x_iconst (pc := 291) B dL_law_291 xk_iconst_2 ?_
              refine x_iadd (pc := 292) B dL_law_292 ?_
              obtain ⟨v30, hv, h⟩ := xbind h
              refine x_sld (pc := 293) B hX dL_law_293 hv ?_
              obtain ⟨q31, hq, h⟩ := xbind h
              refine x_callV1 (st := []) (pc := 294) B dL_law_294 (eX3_send hq) xt_206 xt_53 np_X3_send hy_X3_send (Nat.le_of_ble_eq_true rfl) (Nat.le_of_ble_eq_true rfl) (Nat.le_of_ble_eq_true rfl) xt_204 xt_205 xt_203 rfl (iX3_send hq) rfl ?_
              refine x_aload_n (pc := 297) B 2 dL_law_297 rfl rfl ?_
              refine x_aload_n (pc := 298) B 0 dL_law_298 rfl rfl ?_
              refine x_iload_n (pc := 299) B 3 dL_law_299 rfl rfl ?_
              refine x_iconst (pc := 300) B dL_law_300 xk_iconst_1 ?_
              refine x_iadd (pc := 301) B dL_law_301 ?_
              obtain ⟨v32, hv, h⟩ := xbind h
              refine x_sld (pc := 302) B hX dL_law_302 hv ?_
              refine x_aload_n (pc := 303) B 0 dL_law_303 rfl rfl ?_
              refine x_iload_n (pc := 304) B 3 dL_law_304 rfl rfl ?_
              refine x_iconst (pc := 305) B dL_law_305 xk_iconst_2 ?_
              refine x_iadd (pc := 306) B dL_law_306 ?_
              obtain ⟨v33, hv, h⟩ := xbind h
              refine x_sld (pc := 307) B hX dL_law_307 hv ?_
              obtain ⟨q34, hq, h⟩ := xbind h
              refine x_callV1 (st := [.int q31.1]) (pc := 308) B dL_law_308 (eX4_send hq) xt_688 xt_58 np_X4_send hy_X4_send (Nat.le_of_ble_eq_true rfl) (Nat.le_of_ble_eq_true rfl) (Nat.le_of_ble_eq_true rfl) xt_686 xt_687 xt_685 rfl (iX4_send hq) rfl ?_
              rcases xite h with ⟨hc, h⟩ | ⟨hc, h⟩
              · refine x_icmp_eq_t (tgt := 866) (pc := 311) B dL_law_311 (by decide) hc ?_
                refine x_iinc (L1 := [(3, .int (i3 + (6 : Int32))), (0, .ref 4000), (1, .ref a1), (2, .ref a2)]) (pc := 866) B 3 dL_law_866 rfl (congrArg _ xk_iconst_6) (by decide) rfl ?_
                refine x_goto (tgt := 18) (pc := 869) B dL_law_869 (by decide) ?_
                refine x_sub (L1 := [(0, .ref 4000), (1, .ref a1), (2, .ref a2), (3, .int (i3 + (6 : Int32)))]) [1, 2, 3, 0] rfl ?_
                exact ih a1 a2 (i3 + (6 : Int32)) q34.2 h
              · refine x_icmp_eq_f (pc := 311) B 866 dL_law_311 (by decide) hc ?_
                refine x_iconst (pc := 314) B dL_law_314 xk_iconst_0 ?_
                exact x_lret (pc := 315) B hR h1 dL_law_315 h
            · skip
              rcases xite h with ⟨hc4, h⟩ | ⟨hc4, h⟩
              · refine x_tabIn (tgt := 316) (off := 283) (pc := 33) B dL_law_33 (by rw [hc4]; decide +kernel) (by rw [hc4]; decide +kernel) (by rw [hc4]; decide +kernel) (by decide) ?_
                refine x_aload_n (pc := 316) B 1 dL_law_316 rfl rfl ?_
                refine x_aload_n (pc := 317) B 0 dL_law_317 rfl rfl ?_
                refine x_iload_n (pc := 318) B 3 dL_law_318 rfl rfl ?_
                refine x_iconst (pc := 319) B dL_law_319 xk_iconst_1 ?_
                refine x_iadd (pc := 320) B dL_law_320 ?_
                obtain ⟨v35, hv, h⟩ := xbind h
                refine x_sld (pc := 321) B hX dL_law_321 hv ?_
                refine x_aload_n (pc := 322) B 0 dL_law_322 rfl rfl ?_
                refine x_iload_n (pc := 323) B 3 dL_law_323 rfl rfl ?_
                refine x_iconst (pc := 324) B dL_law_324 xk_iconst_2 ?_
                refine x_iadd (pc := 325) B dL_law_325 ?_
                obtain ⟨v36, hv, h⟩ := xbind h
                refine x_sld (pc := 326) B hX dL_law_326 hv ?_
                obtain ⟨q37, hq, h⟩ := xbind h
                refine x_callV1 (st := []) (pc := 327) B dL_law_327 (eX3_answer hq) xt_213 xt_53 np_X3_answer hy_X3_answer (Nat.le_of_ble_eq_true rfl) (Nat.le_of_ble_eq_true rfl) (Nat.le_of_ble_eq_true rfl) xt_211 xt_212 xt_210 rfl (iX3_answer hq) rfl ?_
                refine x_aload_n (pc := 330) B 2 dL_law_330 rfl rfl ?_
                refine x_aload_n (pc := 331) B 0 dL_law_331 rfl rfl ?_
                refine x_iload_n (pc := 332) B 3 dL_law_332 rfl rfl ?_
                refine x_iconst (pc := 333) B dL_law_333 xk_iconst_1 ?_
                refine x_iadd (pc := 334) B dL_law_334 ?_
                obtain ⟨v38, hv, h⟩ := xbind h
                refine x_sld (pc := 335) B hX dL_law_335 hv ?_
                refine x_aload_n (pc := 336) B 0 dL_law_336 rfl rfl ?_
                refine x_iload_n (pc := 337) B 3 dL_law_337 rfl rfl ?_
                refine x_iconst (pc := 338) B dL_law_338 xk_iconst_2 ?_
                refine x_iadd (pc := 339) B dL_law_339 ?_
                obtain ⟨v39, hv, h⟩ := xbind h
                refine x_sld (pc := 340) B hX dL_law_340 hv ?_
                obtain ⟨q40, hq, h⟩ := xbind h
                refine x_callV1 (st := [.int q37.1]) (pc := 341) B dL_law_341 (eX4_answer hq) xt_692 xt_58 np_X4_answer hy_X4_answer (Nat.le_of_ble_eq_true rfl) (Nat.le_of_ble_eq_true rfl) (Nat.le_of_ble_eq_true rfl) xt_690 xt_691 xt_689 rfl (iX4_answer hq) rfl ?_
                rcases xite h with ⟨hc, h⟩ | ⟨hc, h⟩
                · refine x_icmp_eq_t (tgt := 866) (pc := 344) B dL_law_344 (by decide) hc ?_
                  refine x_iinc (L1 := [(3, .int (i3 + (6 : Int32))), (0, .ref 4000), (1, .ref a1), (2, .ref a2)]) (pc := 866) B 3 dL_law_866 rfl (congrArg _ xk_iconst_6) (by decide) rfl ?_
                  refine x_goto (tgt := 18) (pc := 869) B dL_law_869 (by decide) ?_
                  refine x_sub (L1 := [(0, .ref 4000), (1, .ref a1), (2, .ref a2), (3, .int (i3 + (6 : Int32)))]) [1, 2, 3, 0] rfl ?_
                  exact ih a1 a2 (i3 + (6 : Int32)) q40.2 h
                · refine x_icmp_eq_f (pc := 344) B 866 dL_law_344 (by decide) hc ?_
                  refine x_iconst (pc := 347) B dL_law_347 xk_iconst_0 ?_
                  exact x_lret (pc := 348) B hR h1 dL_law_348 h
              · skip
                rcases xite h with ⟨hc5, h⟩ | ⟨hc5, h⟩
                · refine x_tabIn (tgt := 349) (off := 316) (pc := 33) B dL_law_33 (by rw [hc5]; decide +kernel) (by rw [hc5]; decide +kernel) (by rw [hc5]; decide +kernel) (by decide) ?_
                  refine x_aload_n (pc := 349) B 1 dL_law_349 rfl rfl ?_
                  refine x_aload_n (pc := 350) B 0 dL_law_350 rfl rfl ?_
                  refine x_iload_n (pc := 351) B 3 dL_law_351 rfl rfl ?_
                  refine x_iconst (pc := 352) B dL_law_352 xk_iconst_1 ?_
                  refine x_iadd (pc := 353) B dL_law_353 ?_
                  obtain ⟨v41, hv, h⟩ := xbind h
                  refine x_sld (pc := 354) B hX dL_law_354 hv ?_
                  obtain ⟨q42, hq, h⟩ := xbind h
                  refine x_callV1 (st := []) (pc := 355) B dL_law_355 (eX3_adopt hq) xt_220 xt_53 np_X3_adopt hy_X3_adopt (Nat.le_of_ble_eq_true rfl) (Nat.le_of_ble_eq_true rfl) (Nat.le_of_ble_eq_true rfl) xt_218 xt_219 xt_217 rfl (iX3_adopt hq) rfl ?_
                  refine x_aload_n (pc := 358) B 2 dL_law_358 rfl rfl ?_
                  refine x_aload_n (pc := 359) B 0 dL_law_359 rfl rfl ?_
                  refine x_iload_n (pc := 360) B 3 dL_law_360 rfl rfl ?_
                  refine x_iconst (pc := 361) B dL_law_361 xk_iconst_1 ?_
                  refine x_iadd (pc := 362) B dL_law_362 ?_
                  obtain ⟨v43, hv, h⟩ := xbind h
                  refine x_sld (pc := 363) B hX dL_law_363 hv ?_
                  obtain ⟨q44, hq, h⟩ := xbind h
                  refine x_callV1 (st := [.int q42.1]) (pc := 364) B dL_law_364 (eX4_adopt hq) xt_696 xt_58 np_X4_adopt hy_X4_adopt (Nat.le_of_ble_eq_true rfl) (Nat.le_of_ble_eq_true rfl) (Nat.le_of_ble_eq_true rfl) xt_694 xt_695 xt_693 rfl (iX4_adopt hq) rfl ?_
                  rcases xite h with ⟨hc, h⟩ | ⟨hc, h⟩
                  · refine x_icmp_eq_t (tgt := 866) (pc := 367) B dL_law_367 (by decide) hc ?_
                    refine x_iinc (L1 := [(3, .int (i3 + (6 : Int32))), (0, .ref 4000), (1, .ref a1), (2, .ref a2)]) (pc := 866) B 3 dL_law_866 rfl (congrArg _ xk_iconst_6) (by decide) rfl ?_
                    refine x_goto (tgt := 18) (pc := 869) B dL_law_869 (by decide) ?_
                    refine x_sub (L1 := [(0, .ref 4000), (1, .ref a1), (2, .ref a2), (3, .int (i3 + (6 : Int32)))]) [1, 2, 3, 0] rfl ?_
                    exact ih a1 a2 (i3 + (6 : Int32)) q44.2 h
                  · refine x_icmp_eq_f (pc := 367) B 866 dL_law_367 (by decide) hc ?_
                    refine x_iconst (pc := 370) B dL_law_370 xk_iconst_0 ?_
                    exact x_lret (pc := 371) B hR h1 dL_law_371 h
                · skip
                  rcases xite h with ⟨hc6, h⟩ | ⟨hc6, h⟩
                  · refine x_tabIn (tgt := 372) (off := 339) (pc := 33) B dL_law_33 (by rw [hc6]; decide +kernel) (by rw [hc6]; decide +kernel) (by rw [hc6]; decide +kernel) (by decide) ?_
                    refine x_aload_n (pc := 372) B 1 dL_law_372 rfl rfl ?_
                    refine x_aload_n (pc := 373) B 0 dL_law_373 rfl rfl ?_
                    refine x_iload_n (pc := 374) B 3 dL_law_374 rfl rfl ?_
                    refine x_iconst (pc := 375) B dL_law_375 xk_iconst_1 ?_
                    refine x_iadd (pc := 376) B dL_law_376 ?_
                    obtain ⟨v45, hv, h⟩ := xbind h
                    refine x_sld (pc := 377) B hX dL_law_377 hv ?_
                    refine x_aload_n (pc := 378) B 0 dL_law_378 rfl rfl ?_
                    refine x_iload_n (pc := 379) B 3 dL_law_379 rfl rfl ?_
                    refine x_iconst (pc := 380) B dL_law_380 xk_iconst_2 ?_
                    refine x_iadd (pc := 381) B dL_law_381 ?_
                    obtain ⟨v46, hv, h⟩ := xbind h
                    refine x_sld (pc := 382) B hX dL_law_382 hv ?_
                    refine x_aload_n (pc := 383) B 0 dL_law_383 rfl rfl ?_
                    refine x_iload_n (pc := 384) B 3 dL_law_384 rfl rfl ?_
                    refine x_iconst (pc := 385) B dL_law_385 xk_iconst_3 ?_
                    refine x_iadd (pc := 386) B dL_law_386 ?_
                    obtain ⟨v47, hv, h⟩ := xbind h
                    refine x_sld (pc := 387) B hX dL_law_387 hv ?_
                    refine x_aload_n (pc := 388) B 0 dL_law_388 rfl rfl ?_
                    refine x_iload_n (pc := 389) B 3 dL_law_389 rfl rfl ?_
                    refine x_iconst (pc := 390) B dL_law_390 xk_iconst_4 ?_
                    refine x_iadd (pc := 391) B dL_law_391 ?_
                    obtain ⟨v48, hv, h⟩ := xbind h
                    refine x_sld (pc := 392) B hX dL_law_392 hv ?_
                    obtain ⟨q49, hq, h⟩ := xbind h
                    refine x_callV1 (st := []) (pc := 393) B dL_law_393 (eX3_payoff hq) xt_347 xt_53 np_X3_payoff hy_X3_payoff (Nat.le_of_ble_eq_true rfl) (Nat.le_of_ble_eq_true rfl) (Nat.le_of_ble_eq_true rfl) xt_345 xt_346 xt_344 rfl (iX3_payoff hq) rfl ?_
                    refine x_aload_n (pc := 396) B 2 dL_law_396 rfl rfl ?_
                    refine x_aload_n (pc := 397) B 0 dL_law_397 rfl rfl ?_
                    refine x_iload_n (pc := 398) B 3 dL_law_398 rfl rfl ?_
                    refine x_iconst (pc := 399) B dL_law_399 xk_iconst_1 ?_
                    refine x_iadd (pc := 400) B dL_law_400 ?_
                    obtain ⟨v50, hv, h⟩ := xbind h
                    refine x_sld (pc := 401) B hX dL_law_401 hv ?_
                    refine x_aload_n (pc := 402) B 0 dL_law_402 rfl rfl ?_
                    refine x_iload_n (pc := 403) B 3 dL_law_403 rfl rfl ?_
                    refine x_iconst (pc := 404) B dL_law_404 xk_iconst_2 ?_
                    refine x_iadd (pc := 405) B dL_law_405 ?_
                    obtain ⟨v51, hv, h⟩ := xbind h
                    refine x_sld (pc := 406) B hX dL_law_406 hv ?_
                    refine x_aload_n (pc := 407) B 0 dL_law_407 rfl rfl ?_
                    refine x_iload_n (pc := 408) B 3 dL_law_408 rfl rfl ?_
                    refine x_iconst (pc := 409) B dL_law_409 xk_iconst_3 ?_
                    refine x_iadd (pc := 410) B dL_law_410 ?_
                    obtain ⟨v52, hv, h⟩ := xbind h
                    refine x_sld (pc := 411) B hX dL_law_411 hv ?_
                    refine x_aload_n (pc := 412) B 0 dL_law_412 rfl rfl ?_
                    refine x_iload_n (pc := 413) B 3 dL_law_413 rfl rfl ?_
                    refine x_iconst (pc := 414) B dL_law_414 xk_iconst_4 ?_
                    refine x_iadd (pc := 415) B dL_law_415 ?_
                    obtain ⟨v53, hv, h⟩ := xbind h
                    refine x_sld (pc := 416) B hX dL_law_416 hv ?_
                    obtain ⟨q54, hq, h⟩ := xbind h
                    refine x_callV1 (st := [.int q49.1]) (pc := 417) B dL_law_417 (eX4_payoff hq) xt_804 xt_58 np_X4_payoff hy_X4_payoff (Nat.le_of_ble_eq_true rfl) (Nat.le_of_ble_eq_true rfl) (Nat.le_of_ble_eq_true rfl) xt_802 xt_803 xt_801 rfl (iX4_payoff hq) rfl ?_
                    rcases xite h with ⟨hc, h⟩ | ⟨hc, h⟩
                    · refine x_icmp_eq_t (tgt := 866) (pc := 420) B dL_law_420 (by decide) hc ?_
                      refine x_iinc (L1 := [(3, .int (i3 + (6 : Int32))), (0, .ref 4000), (1, .ref a1), (2, .ref a2)]) (pc := 866) B 3 dL_law_866 rfl (congrArg _ xk_iconst_6) (by decide) rfl ?_
                      refine x_goto (tgt := 18) (pc := 869) B dL_law_869 (by decide) ?_
                      refine x_sub (L1 := [(0, .ref 4000), (1, .ref a1), (2, .ref a2), (3, .int (i3 + (6 : Int32)))]) [1, 2, 3, 0] rfl ?_
                      exact ih a1 a2 (i3 + (6 : Int32)) q54.2 h
                    · refine x_icmp_eq_f (pc := 420) B 866 dL_law_420 (by decide) hc ?_
                      refine x_iconst (pc := 423) B dL_law_423 xk_iconst_0 ?_
                      exact x_lret (pc := 424) B hR h1 dL_law_424 h
                  · skip
                    rcases xite h with ⟨hc7, h⟩ | ⟨hc7, h⟩
                    · refine x_tabIn (tgt := 425) (off := 392) (pc := 33) B dL_law_33 (by rw [hc7]; decide +kernel) (by rw [hc7]; decide +kernel) (by rw [hc7]; decide +kernel) (by decide) ?_
                      refine x_aload_n (pc := 425) B 1 dL_law_425 rfl rfl ?_
                      refine x_aload_n (pc := 426) B 0 dL_law_426 rfl rfl ?_
                      refine x_iload_n (pc := 427) B 3 dL_law_427 rfl rfl ?_
                      refine x_iconst (pc := 428) B dL_law_428 xk_iconst_1 ?_
                      refine x_iadd (pc := 429) B dL_law_429 ?_
                      obtain ⟨v55, hv, h⟩ := xbind h
                      refine x_sld (pc := 430) B hX dL_law_430 hv ?_
                      refine x_aload_n (pc := 431) B 0 dL_law_431 rfl rfl ?_
                      refine x_iload_n (pc := 432) B 3 dL_law_432 rfl rfl ?_
                      refine x_iconst (pc := 433) B dL_law_433 xk_iconst_2 ?_
                      refine x_iadd (pc := 434) B dL_law_434 ?_
                      obtain ⟨v56, hv, h⟩ := xbind h
                      refine x_sld (pc := 435) B hX dL_law_435 hv ?_
                      obtain ⟨q57, hq, h⟩ := xbind h
                      refine x_callV1 (st := []) (pc := 436) B dL_law_436 (eX3_ofType hq) xt_351 xt_53 np_X3_ofType hy_X3_ofType (Nat.le_of_ble_eq_true rfl) (Nat.le_of_ble_eq_true rfl) (Nat.le_of_ble_eq_true rfl) xt_349 xt_350 xt_348 rfl (iX3_ofType hq) rfl ?_
                      refine x_aload_n (pc := 439) B 2 dL_law_439 rfl rfl ?_
                      refine x_aload_n (pc := 440) B 0 dL_law_440 rfl rfl ?_
                      refine x_iload_n (pc := 441) B 3 dL_law_441 rfl rfl ?_
                      refine x_iconst (pc := 442) B dL_law_442 xk_iconst_1 ?_
                      refine x_iadd (pc := 443) B dL_law_443 ?_
                      obtain ⟨v58, hv, h⟩ := xbind h
                      refine x_sld (pc := 444) B hX dL_law_444 hv ?_
                      refine x_aload_n (pc := 445) B 0 dL_law_445 rfl rfl ?_
                      refine x_iload_n (pc := 446) B 3 dL_law_446 rfl rfl ?_
                      refine x_iconst (pc := 447) B dL_law_447 xk_iconst_2 ?_
                      refine x_iadd (pc := 448) B dL_law_448 ?_
                      obtain ⟨v59, hv, h⟩ := xbind h
                      refine x_sld (pc := 449) B hX dL_law_449 hv ?_
                      obtain ⟨q60, hq, h⟩ := xbind h
                      refine x_callV1 (st := [.int q57.1]) (pc := 450) B dL_law_450 (eX4_ofType hq) xt_808 xt_58 np_X4_ofType hy_X4_ofType (Nat.le_of_ble_eq_true rfl) (Nat.le_of_ble_eq_true rfl) (Nat.le_of_ble_eq_true rfl) xt_806 xt_807 xt_805 rfl (iX4_ofType hq) rfl ?_
                      rcases xite h with ⟨hc, h⟩ | ⟨hc, h⟩
                      · refine x_icmp_eq_t (tgt := 866) (pc := 453) B dL_law_453 (by decide) hc ?_
                        refine x_iinc (L1 := [(3, .int (i3 + (6 : Int32))), (0, .ref 4000), (1, .ref a1), (2, .ref a2)]) (pc := 866) B 3 dL_law_866 rfl (congrArg _ xk_iconst_6) (by decide) rfl ?_
                        refine x_goto (tgt := 18) (pc := 869) B dL_law_869 (by decide) ?_
                        refine x_sub (L1 := [(0, .ref 4000), (1, .ref a1), (2, .ref a2), (3, .int (i3 + (6 : Int32)))]) [1, 2, 3, 0] rfl ?_
                        exact ih a1 a2 (i3 + (6 : Int32)) q60.2 h
                      · refine x_icmp_eq_f (pc := 453) B 866 dL_law_453 (by decide) hc ?_
                        refine x_iconst (pc := 456) B dL_law_456 xk_iconst_0 ?_
                        exact x_lret (pc := 457) B hR h1 dL_law_457 h
                    · skip
                      rcases xite h with ⟨hc8, h⟩ | ⟨hc8, h⟩
                      · refine x_tabIn (tgt := 458) (off := 425) (pc := 33) B dL_law_33 (by rw [hc8]; decide +kernel) (by rw [hc8]; decide +kernel) (by rw [hc8]; decide +kernel) (by decide) ?_
                        refine x_aload_n (pc := 458) B 1 dL_law_458 rfl rfl ?_
                        refine x_aload_n (pc := 459) B 0 dL_law_459 rfl rfl ?_
                        refine x_iload_n (pc := 460) B 3 dL_law_460 rfl rfl ?_
                        refine x_iconst (pc := 461) B dL_law_461 xk_iconst_1 ?_
                        refine x_iadd (pc := 462) B dL_law_462 ?_
                        obtain ⟨v61, hv, h⟩ := xbind h
                        refine x_sld (pc := 463) B hX dL_law_463 hv ?_
                        refine x_aload_n (pc := 464) B 0 dL_law_464 rfl rfl ?_
                        refine x_iload_n (pc := 465) B 3 dL_law_465 rfl rfl ?_
                        refine x_iconst (pc := 466) B dL_law_466 xk_iconst_2 ?_
                        refine x_iadd (pc := 467) B dL_law_467 ?_
                        obtain ⟨v62, hv, h⟩ := xbind h
                        refine x_sld (pc := 468) B hX dL_law_468 hv ?_
                        obtain ⟨q63, hq, h⟩ := xbind h
                        refine x_callV1 (st := []) (pc := 469) B dL_law_469 (eX3_ofMessage hq) xt_358 xt_53 np_X3_ofMessage hy_X3_ofMessage (Nat.le_of_ble_eq_true rfl) (Nat.le_of_ble_eq_true rfl) (Nat.le_of_ble_eq_true rfl) xt_356 xt_357 xt_355 rfl (iX3_ofMessage hq) rfl ?_
                        refine x_aload_n (pc := 472) B 2 dL_law_472 rfl rfl ?_
                        refine x_aload_n (pc := 473) B 0 dL_law_473 rfl rfl ?_
                        refine x_iload_n (pc := 474) B 3 dL_law_474 rfl rfl ?_
                        refine x_iconst (pc := 475) B dL_law_475 xk_iconst_1 ?_
                        refine x_iadd (pc := 476) B dL_law_476 ?_
                        obtain ⟨v64, hv, h⟩ := xbind h
                        refine x_sld (pc := 477) B hX dL_law_477 hv ?_
                        refine x_aload_n (pc := 478) B 0 dL_law_478 rfl rfl ?_
                        refine x_iload_n (pc := 479) B 3 dL_law_479 rfl rfl ?_
                        refine x_iconst (pc := 480) B dL_law_480 xk_iconst_2 ?_
                        refine x_iadd (pc := 481) B dL_law_481 ?_
                        obtain ⟨v65, hv, h⟩ := xbind h
                        refine x_sld (pc := 482) B hX dL_law_482 hv ?_
                        obtain ⟨q66, hq, h⟩ := xbind h
                        refine x_callV1 (st := [.int q63.1]) (pc := 483) B dL_law_483 (eX4_ofMessage hq) xt_816 xt_58 np_X4_ofMessage hy_X4_ofMessage (Nat.le_of_ble_eq_true rfl) (Nat.le_of_ble_eq_true rfl) (Nat.le_of_ble_eq_true rfl) xt_814 xt_815 xt_813 rfl (iX4_ofMessage hq) rfl ?_
                        rcases xite h with ⟨hc, h⟩ | ⟨hc, h⟩
                        · refine x_icmp_eq_t (tgt := 866) (pc := 486) B dL_law_486 (by decide) hc ?_
                          refine x_iinc (L1 := [(3, .int (i3 + (6 : Int32))), (0, .ref 4000), (1, .ref a1), (2, .ref a2)]) (pc := 866) B 3 dL_law_866 rfl (congrArg _ xk_iconst_6) (by decide) rfl ?_
                          refine x_goto (tgt := 18) (pc := 869) B dL_law_869 (by decide) ?_
                          refine x_sub (L1 := [(0, .ref 4000), (1, .ref a1), (2, .ref a2), (3, .int (i3 + (6 : Int32)))]) [1, 2, 3, 0] rfl ?_
                          exact ih a1 a2 (i3 + (6 : Int32)) q66.2 h
                        · refine x_icmp_eq_f (pc := 486) B 866 dL_law_486 (by decide) hc ?_
                          refine x_iconst (pc := 489) B dL_law_489 xk_iconst_0 ?_
                          exact x_lret (pc := 490) B hR h1 dL_law_490 h
                      · skip
                        rcases xite h with ⟨hc9, h⟩ | ⟨hc9, h⟩
                        · refine x_tabIn (tgt := 491) (off := 458) (pc := 33) B dL_law_33 (by rw [hc9]; decide +kernel) (by rw [hc9]; decide +kernel) (by rw [hc9]; decide +kernel) (by decide) ?_
                          refine x_aload_n (pc := 491) B 1 dL_law_491 rfl rfl ?_
                          refine x_aload_n (pc := 492) B 0 dL_law_492 rfl rfl ?_
                          refine x_iload_n (pc := 493) B 3 dL_law_493 rfl rfl ?_
                          refine x_iconst (pc := 494) B dL_law_494 xk_iconst_1 ?_
                          refine x_iadd (pc := 495) B dL_law_495 ?_
                          obtain ⟨v67, hv, h⟩ := xbind h
                          refine x_sld (pc := 496) B hX dL_law_496 hv ?_
                          refine x_aload_n (pc := 497) B 0 dL_law_497 rfl rfl ?_
                          refine x_iload_n (pc := 498) B 3 dL_law_498 rfl rfl ?_
                          refine x_iconst (pc := 499) B dL_law_499 xk_iconst_2 ?_
                          refine x_iadd (pc := 500) B dL_law_500 ?_
                          obtain ⟨v68, hv, h⟩ := xbind h
                          refine x_sld (pc := 501) B hX dL_law_501 hv ?_
                          refine x_aload_n (pc := 502) B 0 dL_law_502 rfl rfl ?_
                          refine x_iload_n (pc := 503) B 3 dL_law_503 rfl rfl ?_
                          refine x_iconst (pc := 504) B dL_law_504 xk_iconst_3 ?_
                          refine x_iadd (pc := 505) B dL_law_505 ?_
                          obtain ⟨v69, hv, h⟩ := xbind h
                          refine x_sld (pc := 506) B hX dL_law_506 hv ?_
                          obtain ⟨q70, hq, h⟩ := xbind h
                          refine x_callV1 (st := []) (pc := 507) B dL_law_507 (eX3_belief hq) xt_367 xt_53 np_X3_belief hy_X3_belief (Nat.le_of_ble_eq_true rfl) (Nat.le_of_ble_eq_true rfl) (Nat.le_of_ble_eq_true rfl) xt_365 xt_366 xt_364 rfl (iX3_belief hq) rfl ?_
                          refine x_aload_n (pc := 510) B 2 dL_law_510 rfl rfl ?_
                          refine x_aload_n (pc := 511) B 0 dL_law_511 rfl rfl ?_
                          refine x_iload_n (pc := 512) B 3 dL_law_512 rfl rfl ?_
                          refine x_iconst (pc := 513) B dL_law_513 xk_iconst_1 ?_
                          refine x_iadd (pc := 514) B dL_law_514 ?_
                          obtain ⟨v71, hv, h⟩ := xbind h
                          refine x_sld (pc := 515) B hX dL_law_515 hv ?_
                          refine x_aload_n (pc := 516) B 0 dL_law_516 rfl rfl ?_
                          refine x_iload_n (pc := 517) B 3 dL_law_517 rfl rfl ?_
                          refine x_iconst (pc := 518) B dL_law_518 xk_iconst_2 ?_
                          refine x_iadd (pc := 519) B dL_law_519 ?_
                          obtain ⟨v72, hv, h⟩ := xbind h
                          refine x_sld (pc := 520) B hX dL_law_520 hv ?_
                          refine x_aload_n (pc := 521) B 0 dL_law_521 rfl rfl ?_
                          refine x_iload_n (pc := 522) B 3 dL_law_522 rfl rfl ?_
                          refine x_iconst (pc := 523) B dL_law_523 xk_iconst_3 ?_
                          refine x_iadd (pc := 524) B dL_law_524 ?_
                          obtain ⟨v73, hv, h⟩ := xbind h
                          refine x_sld (pc := 525) B hX dL_law_525 hv ?_
                          obtain ⟨q74, hq, h⟩ := xbind h
                          refine x_callV1 (st := [.int q70.1]) (pc := 526) B dL_law_526 (eX4_belief hq) xt_820 xt_58 np_X4_belief hy_X4_belief (Nat.le_of_ble_eq_true rfl) (Nat.le_of_ble_eq_true rfl) (Nat.le_of_ble_eq_true rfl) xt_818 xt_819 xt_817 rfl (iX4_belief hq) rfl ?_
                          rcases xite h with ⟨hc, h⟩ | ⟨hc, h⟩
                          · refine x_icmp_eq_t (tgt := 866) (pc := 529) B dL_law_529 (by decide) hc ?_
                            refine x_iinc (L1 := [(3, .int (i3 + (6 : Int32))), (0, .ref 4000), (1, .ref a1), (2, .ref a2)]) (pc := 866) B 3 dL_law_866 rfl (congrArg _ xk_iconst_6) (by decide) rfl ?_
                            refine x_goto (tgt := 18) (pc := 869) B dL_law_869 (by decide) ?_
                            refine x_sub (L1 := [(0, .ref 4000), (1, .ref a1), (2, .ref a2), (3, .int (i3 + (6 : Int32)))]) [1, 2, 3, 0] rfl ?_
                            exact ih a1 a2 (i3 + (6 : Int32)) q74.2 h
                          · refine x_icmp_eq_f (pc := 529) B 866 dL_law_529 (by decide) hc ?_
                            refine x_iconst (pc := 532) B dL_law_532 xk_iconst_0 ?_
                            exact x_lret (pc := 533) B hR h1 dL_law_533 h
                        · skip
                          rcases xite h with ⟨hc10, h⟩ | ⟨hc10, h⟩
                          · refine x_tabIn (tgt := 534) (off := 501) (pc := 33) B dL_law_33 (by rw [hc10]; decide +kernel) (by rw [hc10]; decide +kernel) (by rw [hc10]; decide +kernel) (by decide) ?_
                            refine x_aload_n (pc := 534) B 1 dL_law_534 rfl rfl ?_
                            refine x_aload_n (pc := 535) B 0 dL_law_535 rfl rfl ?_
                            refine x_iload_n (pc := 536) B 3 dL_law_536 rfl rfl ?_
                            refine x_iconst (pc := 537) B dL_law_537 xk_iconst_1 ?_
                            refine x_iadd (pc := 538) B dL_law_538 ?_
                            obtain ⟨v75, hv, h⟩ := xbind h
                            refine x_sld (pc := 539) B hX dL_law_539 hv ?_
                            refine x_aload_n (pc := 540) B 0 dL_law_540 rfl rfl ?_
                            refine x_iload_n (pc := 541) B 3 dL_law_541 rfl rfl ?_
                            refine x_iconst (pc := 542) B dL_law_542 xk_iconst_2 ?_
                            refine x_iadd (pc := 543) B dL_law_543 ?_
                            obtain ⟨v76, hv, h⟩ := xbind h
                            refine x_sld (pc := 544) B hX dL_law_544 hv ?_
                            refine x_aload_n (pc := 545) B 0 dL_law_545 rfl rfl ?_
                            refine x_iload_n (pc := 546) B 3 dL_law_546 rfl rfl ?_
                            refine x_iconst (pc := 547) B dL_law_547 xk_iconst_3 ?_
                            refine x_iadd (pc := 548) B dL_law_548 ?_
                            obtain ⟨v77, hv, h⟩ := xbind h
                            refine x_sld (pc := 549) B hX dL_law_549 hv ?_
                            obtain ⟨q78, hq, h⟩ := xbind h
                            refine x_callV1 (st := []) (pc := 550) B dL_law_550 (eX3_mean hq) xt_382 xt_53 np_X3_mean hy_X3_mean (Nat.le_of_ble_eq_true rfl) (Nat.le_of_ble_eq_true rfl) (Nat.le_of_ble_eq_true rfl) xt_380 xt_381 xt_379 rfl (iX3_mean hq) rfl ?_
                            refine x_aload_n (pc := 553) B 2 dL_law_553 rfl rfl ?_
                            refine x_aload_n (pc := 554) B 0 dL_law_554 rfl rfl ?_
                            refine x_iload_n (pc := 555) B 3 dL_law_555 rfl rfl ?_
                            refine x_iconst (pc := 556) B dL_law_556 xk_iconst_1 ?_
                            refine x_iadd (pc := 557) B dL_law_557 ?_
                            obtain ⟨v79, hv, h⟩ := xbind h
                            refine x_sld (pc := 558) B hX dL_law_558 hv ?_
                            refine x_aload_n (pc := 559) B 0 dL_law_559 rfl rfl ?_
                            refine x_iload_n (pc := 560) B 3 dL_law_560 rfl rfl ?_
                            refine x_iconst (pc := 561) B dL_law_561 xk_iconst_2 ?_
                            refine x_iadd (pc := 562) B dL_law_562 ?_
                            obtain ⟨v80, hv, h⟩ := xbind h
                            refine x_sld (pc := 563) B hX dL_law_563 hv ?_
                            refine x_aload_n (pc := 564) B 0 dL_law_564 rfl rfl ?_
                            refine x_iload_n (pc := 565) B 3 dL_law_565 rfl rfl ?_
                            refine x_iconst (pc := 566) B dL_law_566 xk_iconst_3 ?_
                            refine x_iadd (pc := 567) B dL_law_567 ?_
                            obtain ⟨v81, hv, h⟩ := xbind h
                            refine x_sld (pc := 568) B hX dL_law_568 hv ?_
                            obtain ⟨q82, hq, h⟩ := xbind h
                            refine x_callV1 (st := [.int q78.1]) (pc := 569) B dL_law_569 (eX4_mean hq) xt_831 xt_58 np_X4_mean hy_X4_mean (Nat.le_of_ble_eq_true rfl) (Nat.le_of_ble_eq_true rfl) (Nat.le_of_ble_eq_true rfl) xt_829 xt_830 xt_828 rfl (iX4_mean hq) rfl ?_
                            rcases xite h with ⟨hc, h⟩ | ⟨hc, h⟩
                            · refine x_icmp_eq_t (tgt := 866) (pc := 572) B dL_law_572 (by decide) hc ?_
                              refine x_iinc (L1 := [(3, .int (i3 + (6 : Int32))), (0, .ref 4000), (1, .ref a1), (2, .ref a2)]) (pc := 866) B 3 dL_law_866 rfl (congrArg _ xk_iconst_6) (by decide) rfl ?_
                              refine x_goto (tgt := 18) (pc := 869) B dL_law_869 (by decide) ?_
                              refine x_sub (L1 := [(0, .ref 4000), (1, .ref a1), (2, .ref a2), (3, .int (i3 + (6 : Int32)))]) [1, 2, 3, 0] rfl ?_
                              exact ih a1 a2 (i3 + (6 : Int32)) q82.2 h
                            · refine x_icmp_eq_f (pc := 572) B 866 dL_law_572 (by decide) hc ?_
                              refine x_iconst (pc := 575) B dL_law_575 xk_iconst_0 ?_
                              exact x_lret (pc := 576) B hR h1 dL_law_576 h
                          · skip
                            rcases xite h with ⟨hc11, h⟩ | ⟨hc11, h⟩
                            · refine x_tabIn (tgt := 577) (off := 544) (pc := 33) B dL_law_33 (by rw [hc11]; decide +kernel) (by rw [hc11]; decide +kernel) (by rw [hc11]; decide +kernel) (by decide) ?_
                              refine x_aload_n (pc := 577) B 1 dL_law_577 rfl rfl ?_
                              refine x_aload_n (pc := 578) B 0 dL_law_578 rfl rfl ?_
                              refine x_iload_n (pc := 579) B 3 dL_law_579 rfl rfl ?_
                              refine x_iconst (pc := 580) B dL_law_580 xk_iconst_1 ?_
                              refine x_iadd (pc := 581) B dL_law_581 ?_
                              obtain ⟨v83, hv, h⟩ := xbind h
                              refine x_sld (pc := 582) B hX dL_law_582 hv ?_
                              obtain ⟨q84, hq, h⟩ := xbind h
                              refine x_callV1 (st := []) (pc := 583) B dL_law_583 (eX3_why hq) xt_390 xt_53 np_X3_why hy_X3_why (Nat.le_of_ble_eq_true rfl) (Nat.le_of_ble_eq_true rfl) (Nat.le_of_ble_eq_true rfl) xt_388 xt_389 xt_387 rfl (iX3_why hq) rfl ?_
                              refine x_aload_n (pc := 586) B 2 dL_law_586 rfl rfl ?_
                              refine x_aload_n (pc := 587) B 0 dL_law_587 rfl rfl ?_
                              refine x_iload_n (pc := 588) B 3 dL_law_588 rfl rfl ?_
                              refine x_iconst (pc := 589) B dL_law_589 xk_iconst_1 ?_
                              refine x_iadd (pc := 590) B dL_law_590 ?_
                              obtain ⟨v85, hv, h⟩ := xbind h
                              refine x_sld (pc := 591) B hX dL_law_591 hv ?_
                              obtain ⟨q86, hq, h⟩ := xbind h
                              refine x_callV1 (st := [.int q84.1]) (pc := 592) B dL_law_592 (eX4_why hq) xt_835 xt_58 np_X4_why hy_X4_why (Nat.le_of_ble_eq_true rfl) (Nat.le_of_ble_eq_true rfl) (Nat.le_of_ble_eq_true rfl) xt_833 xt_834 xt_832 rfl (iX4_why hq) rfl ?_
                              rcases xite h with ⟨hc, h⟩ | ⟨hc, h⟩
                              · refine x_icmp_eq_t (tgt := 866) (pc := 595) B dL_law_595 (by decide) hc ?_
                                refine x_iinc (L1 := [(3, .int (i3 + (6 : Int32))), (0, .ref 4000), (1, .ref a1), (2, .ref a2)]) (pc := 866) B 3 dL_law_866 rfl (congrArg _ xk_iconst_6) (by decide) rfl ?_
                                refine x_goto (tgt := 18) (pc := 869) B dL_law_869 (by decide) ?_
                                refine x_sub (L1 := [(0, .ref 4000), (1, .ref a1), (2, .ref a2), (3, .int (i3 + (6 : Int32)))]) [1, 2, 3, 0] rfl ?_
                                exact ih a1 a2 (i3 + (6 : Int32)) q86.2 h
                              · refine x_icmp_eq_f (pc := 595) B 866 dL_law_595 (by decide) hc ?_
                                refine x_iconst (pc := 598) B dL_law_598 xk_iconst_0 ?_
                                exact x_lret (pc := 599) B hR h1 dL_law_599 h
                            · skip
                              rcases xite h with ⟨hc12, h⟩ | ⟨hc12, h⟩
                              · refine x_tabIn (tgt := 600) (off := 567) (pc := 33) B dL_law_33 (by rw [hc12]; decide +kernel) (by rw [hc12]; decide +kernel) (by rw [hc12]; decide +kernel) (by decide) ?_
                                refine x_aload_n (pc := 600) B 1 dL_law_600 rfl rfl ?_
                                refine x_aload_n (pc := 601) B 0 dL_law_601 rfl rfl ?_
                                refine x_iload_n (pc := 602) B 3 dL_law_602 rfl rfl ?_
                                refine x_iconst (pc := 603) B dL_law_603 xk_iconst_1 ?_
                                refine x_iadd (pc := 604) B dL_law_604 ?_
                                obtain ⟨v87, hv, h⟩ := xbind h
                                refine x_sld (pc := 605) B hX dL_law_605 hv ?_
                                obtain ⟨q88, hq, h⟩ := xbind h
                                refine x_callV1 (st := []) (pc := 606) B dL_law_606 (eX3_count hq) xt_400 xt_53 np_X3_count hy_X3_count (Nat.le_of_ble_eq_true rfl) (Nat.le_of_ble_eq_true rfl) (Nat.le_of_ble_eq_true rfl) xt_398 xt_399 xt_397 rfl (iX3_count hq) rfl ?_
                                refine x_aload_n (pc := 609) B 2 dL_law_609 rfl rfl ?_
                                refine x_aload_n (pc := 610) B 0 dL_law_610 rfl rfl ?_
                                refine x_iload_n (pc := 611) B 3 dL_law_611 rfl rfl ?_
                                refine x_iconst (pc := 612) B dL_law_612 xk_iconst_1 ?_
                                refine x_iadd (pc := 613) B dL_law_613 ?_
                                obtain ⟨v89, hv, h⟩ := xbind h
                                refine x_sld (pc := 614) B hX dL_law_614 hv ?_
                                obtain ⟨q90, hq, h⟩ := xbind h
                                refine x_callV1 (st := [.int q88.1]) (pc := 615) B dL_law_615 (eX4_count hq) xt_839 xt_58 np_X4_count hy_X4_count (Nat.le_of_ble_eq_true rfl) (Nat.le_of_ble_eq_true rfl) (Nat.le_of_ble_eq_true rfl) xt_837 xt_838 xt_836 rfl (iX4_count hq) rfl ?_
                                rcases xite h with ⟨hc, h⟩ | ⟨hc, h⟩
                                · refine x_icmp_eq_t (tgt := 866) (pc := 618) B dL_law_618 (by decide) hc ?_
                                  refine x_iinc (L1 := [(3, .int (i3 + (6 : Int32))), (0, .ref 4000), (1, .ref a1), (2, .ref a2)]) (pc := 866) B 3 dL_law_866 rfl (congrArg _ xk_iconst_6) (by decide) rfl ?_
                                  refine x_goto (tgt := 18) (pc := 869) B dL_law_869 (by decide) ?_
                                  refine x_sub (L1 := [(0, .ref 4000), (1, .ref a1), (2, .ref a2), (3, .int (i3 + (6 : Int32)))]) [1, 2, 3, 0] rfl ?_
                                  exact ih a1 a2 (i3 + (6 : Int32)) q90.2 h
                                · refine x_icmp_eq_f (pc := 618) B 866 dL_law_618 (by decide) hc ?_
                                  refine x_iconst (pc := 621) B dL_law_621 xk_iconst_0 ?_
                                  exact x_lret (pc := 622) B hR h1 dL_law_622 h
                              · skip
                                rcases xite h with ⟨hc13, h⟩ | ⟨hc13, h⟩
                                · refine x_tabIn (tgt := 623) (off := 590) (pc := 33) B dL_law_33 (by rw [hc13]; decide +kernel) (by rw [hc13]; decide +kernel) (by rw [hc13]; decide +kernel) (by decide) ?_
                                  refine x_aload_n (pc := 623) B 1 dL_law_623 rfl rfl ?_
                                  refine x_aload_n (pc := 624) B 0 dL_law_624 rfl rfl ?_
                                  refine x_iload_n (pc := 625) B 3 dL_law_625 rfl rfl ?_
                                  refine x_iconst (pc := 626) B dL_law_626 xk_iconst_1 ?_
                                  refine x_iadd (pc := 627) B dL_law_627 ?_
                                  obtain ⟨v91, hv, h⟩ := xbind h
                                  refine x_sld (pc := 628) B hX dL_law_628 hv ?_
                                  obtain ⟨q92, hq, h⟩ := xbind h
                                  refine x_callV1 (st := []) (pc := 629) B dL_law_629 (eX3_plans hq) xt_421 xt_53 np_X3_plans hy_X3_plans (Nat.le_of_ble_eq_true rfl) (Nat.le_of_ble_eq_true rfl) (Nat.le_of_ble_eq_true rfl) xt_419 xt_420 xt_418 rfl (iX3_plans hq) rfl ?_
                                  refine x_aload_n (pc := 632) B 2 dL_law_632 rfl rfl ?_
                                  refine x_aload_n (pc := 633) B 0 dL_law_633 rfl rfl ?_
                                  refine x_iload_n (pc := 634) B 3 dL_law_634 rfl rfl ?_
                                  refine x_iconst (pc := 635) B dL_law_635 xk_iconst_1 ?_
                                  refine x_iadd (pc := 636) B dL_law_636 ?_
                                  obtain ⟨v93, hv, h⟩ := xbind h
                                  refine x_sld (pc := 637) B hX dL_law_637 hv ?_
                                  obtain ⟨q94, hq, h⟩ := xbind h
                                  refine x_callV1 (st := [.int q92.1]) (pc := 638) B dL_law_638 (eX4_plans hq) xt_788 xt_58 np_X4_plans hy_X4_plans (Nat.le_of_ble_eq_true rfl) (Nat.le_of_ble_eq_true rfl) (Nat.le_of_ble_eq_true rfl) xt_786 xt_787 xt_785 rfl (iX4_plans hq) rfl ?_
                                  rcases xite h with ⟨hc, h⟩ | ⟨hc, h⟩
                                  · refine x_icmp_eq_t (tgt := 866) (pc := 641) B dL_law_641 (by decide) hc ?_
                                    refine x_iinc (L1 := [(3, .int (i3 + (6 : Int32))), (0, .ref 4000), (1, .ref a1), (2, .ref a2)]) (pc := 866) B 3 dL_law_866 rfl (congrArg _ xk_iconst_6) (by decide) rfl ?_
                                    refine x_goto (tgt := 18) (pc := 869) B dL_law_869 (by decide) ?_
                                    refine x_sub (L1 := [(0, .ref 4000), (1, .ref a1), (2, .ref a2), (3, .int (i3 + (6 : Int32)))]) [1, 2, 3, 0] rfl ?_
                                    exact ih a1 a2 (i3 + (6 : Int32)) q94.2 h
                                  · refine x_icmp_eq_f (pc := 641) B 866 dL_law_641 (by decide) hc ?_
                                    refine x_iconst (pc := 644) B dL_law_644 xk_iconst_0 ?_
                                    exact x_lret (pc := 645) B hR h1 dL_law_645 h
                                · skip
                                  rcases xite h with ⟨hc14, h⟩ | ⟨hc14, h⟩
                                  · refine x_tabIn (tgt := 646) (off := 613) (pc := 33) B dL_law_33 (by rw [hc14]; decide +kernel) (by rw [hc14]; decide +kernel) (by rw [hc14]; decide +kernel) (by decide) ?_
                                    refine x_aload_n (pc := 646) B 1 dL_law_646 rfl rfl ?_
                                    refine x_aload_n (pc := 647) B 0 dL_law_647 rfl rfl ?_
                                    refine x_iload_n (pc := 648) B 3 dL_law_648 rfl rfl ?_
                                    refine x_iconst (pc := 649) B dL_law_649 xk_iconst_1 ?_
                                    refine x_iadd (pc := 650) B dL_law_650 ?_
                                    obtain ⟨v95, hv, h⟩ := xbind h
                                    refine x_sld (pc := 651) B hX dL_law_651 hv ?_
                                    obtain ⟨q96, hq, h⟩ := xbind h
                                    refine x_callV1 (st := []) (pc := 652) B dL_law_652 (eX3_planAt hq) xt_425 xt_53 np_X3_planAt hy_X3_planAt (Nat.le_of_ble_eq_true rfl) (Nat.le_of_ble_eq_true rfl) (Nat.le_of_ble_eq_true rfl) xt_423 xt_424 xt_422 rfl (iX3_planAt hq) rfl ?_
                                    refine x_aload_n (pc := 655) B 2 dL_law_655 rfl rfl ?_
                                    refine x_aload_n (pc := 656) B 0 dL_law_656 rfl rfl ?_
                                    refine x_iload_n (pc := 657) B 3 dL_law_657 rfl rfl ?_
                                    refine x_iconst (pc := 658) B dL_law_658 xk_iconst_1 ?_
                                    refine x_iadd (pc := 659) B dL_law_659 ?_
                                    obtain ⟨v97, hv, h⟩ := xbind h
                                    refine x_sld (pc := 660) B hX dL_law_660 hv ?_
                                    obtain ⟨q98, hq, h⟩ := xbind h
                                    refine x_callV1 (st := [.int q96.1]) (pc := 661) B dL_law_661 (eX4_planAt hq) xt_792 xt_58 np_X4_planAt hy_X4_planAt (Nat.le_of_ble_eq_true rfl) (Nat.le_of_ble_eq_true rfl) (Nat.le_of_ble_eq_true rfl) xt_790 xt_791 xt_789 rfl (iX4_planAt hq) rfl ?_
                                    rcases xite h with ⟨hc, h⟩ | ⟨hc, h⟩
                                    · refine x_icmp_eq_t (tgt := 866) (pc := 664) B dL_law_664 (by decide) hc ?_
                                      refine x_iinc (L1 := [(3, .int (i3 + (6 : Int32))), (0, .ref 4000), (1, .ref a1), (2, .ref a2)]) (pc := 866) B 3 dL_law_866 rfl (congrArg _ xk_iconst_6) (by decide) rfl ?_
                                      refine x_goto (tgt := 18) (pc := 869) B dL_law_869 (by decide) ?_
                                      refine x_sub (L1 := [(0, .ref 4000), (1, .ref a1), (2, .ref a2), (3, .int (i3 + (6 : Int32)))]) [1, 2, 3, 0] rfl ?_
                                      exact ih a1 a2 (i3 + (6 : Int32)) q98.2 h
                                    · refine x_icmp_eq_f (pc := 664) B 866 dL_law_664 (by decide) hc ?_
                                      refine x_iconst (pc := 667) B dL_law_667 xk_iconst_0 ?_
                                      exact x_lret (pc := 668) B hR h1 dL_law_668 h
                                  · skip
                                    rcases xite h with ⟨hc15, h⟩ | ⟨hc15, h⟩
                                    · refine x_tabIn (tgt := 669) (off := 636) (pc := 33) B dL_law_33 (by rw [hc15]; decide +kernel) (by rw [hc15]; decide +kernel) (by rw [hc15]; decide +kernel) (by decide) ?_
                                      refine x_aload_n (pc := 669) B 1 dL_law_669 rfl rfl ?_
                                      refine x_aload_n (pc := 670) B 0 dL_law_670 rfl rfl ?_
                                      refine x_iload_n (pc := 671) B 3 dL_law_671 rfl rfl ?_
                                      refine x_iconst (pc := 672) B dL_law_672 xk_iconst_1 ?_
                                      refine x_iadd (pc := 673) B dL_law_673 ?_
                                      obtain ⟨v99, hv, h⟩ := xbind h
                                      refine x_sld (pc := 674) B hX dL_law_674 hv ?_
                                      obtain ⟨q100, hq, h⟩ := xbind h
                                      refine x_callV1 (st := []) (pc := 675) B dL_law_675 (eX3_bestAnswer hq) xt_429 xt_53 np_X3_bestAnswer hy_X3_bestAnswer (Nat.le_of_ble_eq_true rfl) (Nat.le_of_ble_eq_true rfl) (Nat.le_of_ble_eq_true rfl) xt_427 xt_428 xt_426 rfl (iX3_bestAnswer hq) rfl ?_
                                      refine x_aload_n (pc := 678) B 2 dL_law_678 rfl rfl ?_
                                      refine x_aload_n (pc := 679) B 0 dL_law_679 rfl rfl ?_
                                      refine x_iload_n (pc := 680) B 3 dL_law_680 rfl rfl ?_
                                      refine x_iconst (pc := 681) B dL_law_681 xk_iconst_1 ?_
                                      refine x_iadd (pc := 682) B dL_law_682 ?_
                                      obtain ⟨v101, hv, h⟩ := xbind h
                                      refine x_sld (pc := 683) B hX dL_law_683 hv ?_
                                      obtain ⟨q102, hq, h⟩ := xbind h
                                      refine x_callV1 (st := [.int q100.1]) (pc := 684) B dL_law_684 (eX4_bestAnswer hq) xt_847 xt_58 np_X4_bestAnswer hy_X4_bestAnswer (Nat.le_of_ble_eq_true rfl) (Nat.le_of_ble_eq_true rfl) (Nat.le_of_ble_eq_true rfl) xt_845 xt_846 xt_844 rfl (iX4_bestAnswer hq) rfl ?_
                                      rcases xite h with ⟨hc, h⟩ | ⟨hc, h⟩
                                      · refine x_icmp_eq_t (tgt := 866) (pc := 687) B dL_law_687 (by decide) hc ?_
                                        refine x_iinc (L1 := [(3, .int (i3 + (6 : Int32))), (0, .ref 4000), (1, .ref a1), (2, .ref a2)]) (pc := 866) B 3 dL_law_866 rfl (congrArg _ xk_iconst_6) (by decide) rfl ?_
                                        refine x_goto (tgt := 18) (pc := 869) B dL_law_869 (by decide) ?_
                                        refine x_sub (L1 := [(0, .ref 4000), (1, .ref a1), (2, .ref a2), (3, .int (i3 + (6 : Int32)))]) [1, 2, 3, 0] rfl ?_
                                        exact ih a1 a2 (i3 + (6 : Int32)) q102.2 h
                                      · refine x_icmp_eq_f (pc := 687) B 866 dL_law_687 (by decide) hc ?_
                                        refine x_iconst (pc := 690) B dL_law_690 xk_iconst_0 ?_
                                        exact x_lret (pc := 691) B hR h1 dL_law_691 h
                                    · skip
                                      rcases xite h with ⟨hc16, h⟩ | ⟨hc16, h⟩
                                      · refine x_tabIn (tgt := 692) (off := 659) (pc := 33) B dL_law_33 (by rw [hc16]; decide +kernel) (by rw [hc16]; decide +kernel) (by rw [hc16]; decide +kernel) (by decide) ?_
                                        refine x_aload_n (pc := 692) B 1 dL_law_692 rfl rfl ?_
                                        refine x_aload_n (pc := 693) B 0 dL_law_693 rfl rfl ?_
                                        refine x_iload_n (pc := 694) B 3 dL_law_694 rfl rfl ?_
                                        refine x_iconst (pc := 695) B dL_law_695 xk_iconst_1 ?_
                                        refine x_iadd (pc := 696) B dL_law_696 ?_
                                        obtain ⟨v103, hv, h⟩ := xbind h
                                        refine x_sld (pc := 697) B hX dL_law_697 hv ?_
                                        obtain ⟨q104, hq, h⟩ := xbind h
                                        refine x_callV1 (st := []) (pc := 698) B dL_law_698 (eX3_bestPlan hq) xt_437 xt_53 np_X3_bestPlan hy_X3_bestPlan (Nat.le_of_ble_eq_true rfl) (Nat.le_of_ble_eq_true rfl) (Nat.le_of_ble_eq_true rfl) xt_435 xt_436 xt_434 rfl (iX3_bestPlan hq) rfl ?_
                                        refine x_aload_n (pc := 701) B 2 dL_law_701 rfl rfl ?_
                                        refine x_aload_n (pc := 702) B 0 dL_law_702 rfl rfl ?_
                                        refine x_iload_n (pc := 703) B 3 dL_law_703 rfl rfl ?_
                                        refine x_iconst (pc := 704) B dL_law_704 xk_iconst_1 ?_
                                        refine x_iadd (pc := 705) B dL_law_705 ?_
                                        obtain ⟨v105, hv, h⟩ := xbind h
                                        refine x_sld (pc := 706) B hX dL_law_706 hv ?_
                                        obtain ⟨q106, hq, h⟩ := xbind h
                                        refine x_callV1 (st := [.int q104.1]) (pc := 707) B dL_law_707 (eX4_bestPlan hq) xt_796 xt_58 np_X4_bestPlan hy_X4_bestPlan (Nat.le_of_ble_eq_true rfl) (Nat.le_of_ble_eq_true rfl) (Nat.le_of_ble_eq_true rfl) xt_794 xt_795 xt_793 rfl (iX4_bestPlan hq) rfl ?_
                                        rcases xite h with ⟨hc, h⟩ | ⟨hc, h⟩
                                        · refine x_icmp_eq_t (tgt := 866) (pc := 710) B dL_law_710 (by decide) hc ?_
                                          refine x_iinc (L1 := [(3, .int (i3 + (6 : Int32))), (0, .ref 4000), (1, .ref a1), (2, .ref a2)]) (pc := 866) B 3 dL_law_866 rfl (congrArg _ xk_iconst_6) (by decide) rfl ?_
                                          refine x_goto (tgt := 18) (pc := 869) B dL_law_869 (by decide) ?_
                                          refine x_sub (L1 := [(0, .ref 4000), (1, .ref a1), (2, .ref a2), (3, .int (i3 + (6 : Int32)))]) [1, 2, 3, 0] rfl ?_
                                          exact ih a1 a2 (i3 + (6 : Int32)) q106.2 h
                                        · refine x_icmp_eq_f (pc := 710) B 866 dL_law_710 (by decide) hc ?_
                                          refine x_iconst (pc := 713) B dL_law_713 xk_iconst_0 ?_
                                          exact x_lret (pc := 714) B hR h1 dL_law_714 h
                                      · skip
                                        rcases xite h with ⟨hc17, h⟩ | ⟨hc17, h⟩
                                        · refine x_tabIn (tgt := 715) (off := 682) (pc := 33) B dL_law_33 (by rw [hc17]; decide +kernel) (by rw [hc17]; decide +kernel) (by rw [hc17]; decide +kernel) (by decide) ?_
                                          refine x_aload_n (pc := 715) B 1 dL_law_715 rfl rfl ?_
                                          refine x_aload_n (pc := 716) B 0 dL_law_716 rfl rfl ?_
                                          refine x_iload_n (pc := 717) B 3 dL_law_717 rfl rfl ?_
                                          refine x_iconst (pc := 718) B dL_law_718 xk_iconst_1 ?_
                                          refine x_iadd (pc := 719) B dL_law_719 ?_
                                          obtain ⟨v107, hv, h⟩ := xbind h
                                          refine x_sld (pc := 720) B hX dL_law_720 hv ?_
                                          refine x_i2l (pc := 721) B dL_law_721 ?_
                                          refine x_bipush (pc := 722) B dL_law_722 xk_bipush_32 ?_
                                          refine x_lshl (pc := 724) B dL_law_724 ?_
                                          refine x_aload_n (pc := 725) B 0 dL_law_725 rfl rfl ?_
                                          refine x_iload_n (pc := 726) B 3 dL_law_726 rfl rfl ?_
                                          refine x_iconst (pc := 727) B dL_law_727 xk_iconst_2 ?_
                                          refine x_iadd (pc := 728) B dL_law_728 ?_
                                          obtain ⟨v108, hv, h⟩ := xbind h
                                          refine x_sld (pc := 729) B hX dL_law_729 hv ?_
                                          refine x_i2l (pc := 730) B dL_law_730 ?_
                                          refine x_ldc2 (pc := 731) B dL_law_731 xt_899 ?_
                                          refine x_land (pc := 734) B dL_law_734 ?_
                                          refine x_lor (pc := 735) B dL_law_735 ?_
                                          obtain ⟨q109, hq, h⟩ := xbind h
                                          refine x_callV1 (st := []) (pc := 736) B dL_law_736 (eX3_put hq) xt_454 xt_53 np_X3_put hy_X3_put (Nat.le_of_ble_eq_true rfl) (Nat.le_of_ble_eq_true rfl) (Nat.le_of_ble_eq_true rfl) xt_452 xt_453 xt_451 rfl (iX3_put hq) rfl ?_
                                          refine x_aload_n (pc := 739) B 2 dL_law_739 rfl rfl ?_
                                          refine x_aload_n (pc := 740) B 0 dL_law_740 rfl rfl ?_
                                          refine x_iload_n (pc := 741) B 3 dL_law_741 rfl rfl ?_
                                          refine x_iconst (pc := 742) B dL_law_742 xk_iconst_1 ?_
                                          refine x_iadd (pc := 743) B dL_law_743 ?_
                                          obtain ⟨v110, hv, h⟩ := xbind h
                                          refine x_sld (pc := 744) B hX dL_law_744 hv ?_
                                          refine x_i2l (pc := 745) B dL_law_745 ?_
                                          refine x_bipush (pc := 746) B dL_law_746 xk_bipush_32 ?_
                                          refine x_lshl (pc := 748) B dL_law_748 ?_
                                          refine x_aload_n (pc := 749) B 0 dL_law_749 rfl rfl ?_
                                          refine x_iload_n (pc := 750) B 3 dL_law_750 rfl rfl ?_
                                          refine x_iconst (pc := 751) B dL_law_751 xk_iconst_2 ?_
                                          refine x_iadd (pc := 752) B dL_law_752 ?_
                                          obtain ⟨v111, hv, h⟩ := xbind h
                                          refine x_sld (pc := 753) B hX dL_law_753 hv ?_
                                          refine x_i2l (pc := 754) B dL_law_754 ?_
                                          refine x_ldc2 (pc := 755) B dL_law_755 xt_899 ?_
                                          refine x_land (pc := 758) B dL_law_758 ?_
                                          refine x_lor (pc := 759) B dL_law_759 ?_
                                          obtain ⟨q112, hq, h⟩ := xbind h
                                          refine x_callV1 (st := [.int q109.1]) (pc := 760) B dL_law_760 (eX4_put hq) xt_851 xt_58 np_X4_put hy_X4_put (Nat.le_of_ble_eq_true rfl) (Nat.le_of_ble_eq_true rfl) (Nat.le_of_ble_eq_true rfl) xt_849 xt_850 xt_848 rfl (iX4_put hq) rfl ?_
                                          rcases xite h with ⟨hc, h⟩ | ⟨hc, h⟩
                                          · refine x_icmp_eq_t (tgt := 866) (pc := 763) B dL_law_763 (by decide) hc ?_
                                            refine x_iinc (L1 := [(3, .int (i3 + (6 : Int32))), (0, .ref 4000), (1, .ref a1), (2, .ref a2)]) (pc := 866) B 3 dL_law_866 rfl (congrArg _ xk_iconst_6) (by decide) rfl ?_
                                            refine x_goto (tgt := 18) (pc := 869) B dL_law_869 (by decide) ?_
                                            refine x_sub (L1 := [(0, .ref 4000), (1, .ref a1), (2, .ref a2), (3, .int (i3 + (6 : Int32)))]) [1, 2, 3, 0] rfl ?_
                                            exact ih a1 a2 (i3 + (6 : Int32)) q112.2 h
                                          · refine x_icmp_eq_f (pc := 763) B 866 dL_law_763 (by decide) hc ?_
                                            refine x_iconst (pc := 766) B dL_law_766 xk_iconst_0 ?_
                                            exact x_lret (pc := 767) B hR h1 dL_law_767 h
                                        · skip
                                          rcases xite h with ⟨hc18, h⟩ | ⟨hc18, h⟩
                                          · refine x_tabIn (tgt := 768) (off := 735) (pc := 33) B dL_law_33 (by rw [hc18]; decide +kernel) (by rw [hc18]; decide +kernel) (by rw [hc18]; decide +kernel) (by decide) ?_
                                            refine x_aload_n (pc := 768) B 1 dL_law_768 rfl rfl ?_
                                            obtain ⟨q113, hq, h⟩ := xbind h
                                            refine x_callV1 (st := []) (pc := 769) B dL_law_769 (eX3_wipe hq) xt_469 xt_53 np_X3_wipe hy_X3_wipe (Nat.le_of_ble_eq_true rfl) (Nat.le_of_ble_eq_true rfl) (Nat.le_of_ble_eq_true rfl) xt_467 xt_468 xt_466 rfl (iX3_wipe hq) rfl ?_
                                            refine x_aload_n (pc := 772) B 2 dL_law_772 rfl rfl ?_
                                            obtain ⟨q114, hq, h⟩ := xbind h
                                            refine x_callV1 (st := [.int q113.1]) (pc := 773) B dL_law_773 (eX4_wipe hq) xt_862 xt_58 np_X4_wipe hy_X4_wipe (Nat.le_of_ble_eq_true rfl) (Nat.le_of_ble_eq_true rfl) (Nat.le_of_ble_eq_true rfl) xt_860 xt_861 xt_859 rfl (iX4_wipe hq) rfl ?_
                                            rcases xite h with ⟨hc, h⟩ | ⟨hc, h⟩
                                            · refine x_icmp_eq_t (tgt := 866) (pc := 776) B dL_law_776 (by decide) hc ?_
                                              refine x_iinc (L1 := [(3, .int (i3 + (6 : Int32))), (0, .ref 4000), (1, .ref a1), (2, .ref a2)]) (pc := 866) B 3 dL_law_866 rfl (congrArg _ xk_iconst_6) (by decide) rfl ?_
                                              refine x_goto (tgt := 18) (pc := 869) B dL_law_869 (by decide) ?_
                                              refine x_sub (L1 := [(0, .ref 4000), (1, .ref a1), (2, .ref a2), (3, .int (i3 + (6 : Int32)))]) [1, 2, 3, 0] rfl ?_
                                              exact ih a1 a2 (i3 + (6 : Int32)) q114.2 h
                                            · refine x_icmp_eq_f (pc := 776) B 866 dL_law_776 (by decide) hc ?_
                                              refine x_iconst (pc := 779) B dL_law_779 xk_iconst_0 ?_
                                              exact x_lret (pc := 780) B hR h1 dL_law_780 h
                                          · skip
                                            rcases xite h with ⟨hc19, h⟩ | ⟨hc19, h⟩
                                            · refine x_tabIn (tgt := 781) (off := 748) (pc := 33) B dL_law_33 (by rw [hc19]; decide +kernel) (by rw [hc19]; decide +kernel) (by rw [hc19]; decide +kernel) (by decide) ?_
                                              refine x_aload_n (pc := 781) B 1 dL_law_781 rfl rfl ?_
                                              obtain ⟨q115, hq, h⟩ := xbind h
                                              refine x_callV1 (st := []) (pc := 782) B dL_law_782 (eX3_fault hq) xt_477 xt_53 np_X3_fault hy_X3_fault (Nat.le_of_ble_eq_true rfl) (Nat.le_of_ble_eq_true rfl) (Nat.le_of_ble_eq_true rfl) xt_475 xt_476 xt_474 rfl (iX3_fault hq) rfl ?_
                                              refine x_aload_n (pc := 785) B 2 dL_law_785 rfl rfl ?_
                                              obtain ⟨q116, hq, h⟩ := xbind h
                                              refine x_callV1 (st := [.int q115.1]) (pc := 786) B dL_law_786 (eX4_fault hq) xt_866 xt_58 np_X4_fault hy_X4_fault (Nat.le_of_ble_eq_true rfl) (Nat.le_of_ble_eq_true rfl) (Nat.le_of_ble_eq_true rfl) xt_864 xt_865 xt_863 rfl (iX4_fault hq) rfl ?_
                                              rcases xite h with ⟨hc, h⟩ | ⟨hc, h⟩
                                              · refine x_icmp_eq_t (tgt := 866) (pc := 789) B dL_law_789 (by decide) hc ?_
                                                refine x_iinc (L1 := [(3, .int (i3 + (6 : Int32))), (0, .ref 4000), (1, .ref a1), (2, .ref a2)]) (pc := 866) B 3 dL_law_866 rfl (congrArg _ xk_iconst_6) (by decide) rfl ?_
                                                refine x_goto (tgt := 18) (pc := 869) B dL_law_869 (by decide) ?_
                                                refine x_sub (L1 := [(0, .ref 4000), (1, .ref a1), (2, .ref a2), (3, .int (i3 + (6 : Int32)))]) [1, 2, 3, 0] rfl ?_
                                                exact ih a1 a2 (i3 + (6 : Int32)) q116.2 h
                                              · refine x_icmp_eq_f (pc := 789) B 866 dL_law_789 (by decide) hc ?_
                                                refine x_iconst (pc := 792) B dL_law_792 xk_iconst_0 ?_
                                                exact x_lret (pc := 793) B hR h1 dL_law_793 h
                                            · skip
                                              rcases xite h with ⟨hc20, h⟩ | ⟨hc20, h⟩
                                              · refine x_tabIn (tgt := 794) (off := 761) (pc := 33) B dL_law_33 (by rw [hc20]; decide +kernel) (by rw [hc20]; decide +kernel) (by rw [hc20]; decide +kernel) (by decide) ?_
                                                refine x_aload_n (pc := 794) B 1 dL_law_794 rfl rfl ?_
                                                obtain ⟨q117, hq, h⟩ := xbind h
                                                refine x_callV1 (st := []) (pc := 795) B dL_law_795 (eX3_carryOut hq) xt_563 xt_53 np_X3_carryOut hy_X3_carryOut (Nat.le_of_ble_eq_true rfl) (Nat.le_of_ble_eq_true rfl) (Nat.le_of_ble_eq_true rfl) xt_561 xt_562 xt_560 rfl (iX3_carryOut hq) rfl ?_
                                                refine x_aload_n (pc := 798) B 2 dL_law_798 rfl rfl ?_
                                                obtain ⟨q118, hq, h⟩ := xbind h
                                                refine x_callV1 (st := [.int q117.1]) (pc := 799) B dL_law_799 (eX4_carryOut hq) xt_894 xt_58 np_X4_carryOut hy_X4_carryOut (Nat.le_of_ble_eq_true rfl) (Nat.le_of_ble_eq_true rfl) (Nat.le_of_ble_eq_true rfl) xt_892 xt_893 xt_891 rfl (iX4_carryOut hq) rfl ?_
                                                rcases xite h with ⟨hc, h⟩ | ⟨hc, h⟩
                                                · refine x_icmp_eq_t (tgt := 866) (pc := 802) B dL_law_802 (by decide) hc ?_
                                                  refine x_iinc (L1 := [(3, .int (i3 + (6 : Int32))), (0, .ref 4000), (1, .ref a1), (2, .ref a2)]) (pc := 866) B 3 dL_law_866 rfl (congrArg _ xk_iconst_6) (by decide) rfl ?_
                                                  refine x_goto (tgt := 18) (pc := 869) B dL_law_869 (by decide) ?_
                                                  refine x_sub (L1 := [(0, .ref 4000), (1, .ref a1), (2, .ref a2), (3, .int (i3 + (6 : Int32)))]) [1, 2, 3, 0] rfl ?_
                                                  exact ih a1 a2 (i3 + (6 : Int32)) q118.2 h
                                                · refine x_icmp_eq_f (pc := 802) B 866 dL_law_802 (by decide) hc ?_
                                                  refine x_iconst (pc := 805) B dL_law_805 xk_iconst_0 ?_
                                                  exact x_lret (pc := 806) B hR h1 dL_law_806 h
                                              · skip
                                                rcases xite h with ⟨hc21, h⟩ | ⟨hc21, h⟩
                                                · refine x_tabIn (tgt := 807) (off := 774) (pc := 33) B dL_law_33 (by rw [hc21]; decide +kernel) (by rw [hc21]; decide +kernel) (by rw [hc21]; decide +kernel) (by decide) ?_
                                                  refine x_aload_n (pc := 807) B 1 dL_law_807 rfl rfl ?_
                                                  obtain ⟨q119, hq, h⟩ := xbind h
                                                  refine x_callV1 (st := []) (pc := 808) B dL_law_808 (eX3_undo hq) xt_586 xt_53 np_X3_undo hy_X3_undo (Nat.le_of_ble_eq_true rfl) (Nat.le_of_ble_eq_true rfl) (Nat.le_of_ble_eq_true rfl) xt_584 xt_585 xt_583 rfl (iX3_undo hq) rfl ?_
                                                  refine x_aload_n (pc := 811) B 2 dL_law_811 rfl rfl ?_
                                                  obtain ⟨q120, hq, h⟩ := xbind h
                                                  refine x_callV1 (st := [.int q119.1]) (pc := 812) B dL_law_812 (eX4_undo hq) xt_629 xt_58 np_X4_undo hy_X4_undo (Nat.le_of_ble_eq_true rfl) (Nat.le_of_ble_eq_true rfl) (Nat.le_of_ble_eq_true rfl) xt_627 xt_628 xt_626 rfl (iX4_undo hq) rfl ?_
                                                  rcases xite h with ⟨hc, h⟩ | ⟨hc, h⟩
                                                  · refine x_icmp_eq_t (tgt := 866) (pc := 815) B dL_law_815 (by decide) hc ?_
                                                    refine x_iinc (L1 := [(3, .int (i3 + (6 : Int32))), (0, .ref 4000), (1, .ref a1), (2, .ref a2)]) (pc := 866) B 3 dL_law_866 rfl (congrArg _ xk_iconst_6) (by decide) rfl ?_
                                                    refine x_goto (tgt := 18) (pc := 869) B dL_law_869 (by decide) ?_
                                                    refine x_sub (L1 := [(0, .ref 4000), (1, .ref a1), (2, .ref a2), (3, .int (i3 + (6 : Int32)))]) [1, 2, 3, 0] rfl ?_
                                                    exact ih a1 a2 (i3 + (6 : Int32)) q120.2 h
                                                  · refine x_icmp_eq_f (pc := 815) B 866 dL_law_815 (by decide) hc ?_
                                                    refine x_iconst (pc := 818) B dL_law_818 xk_iconst_0 ?_
                                                    exact x_lret (pc := 819) B hR h1 dL_law_819 h
                                                · skip
                                                  rcases xite h with ⟨hc22, h⟩ | ⟨hc22, h⟩
                                                  · refine x_tabIn (tgt := 820) (off := 787) (pc := 33) B dL_law_33 (by rw [hc22]; decide +kernel) (by rw [hc22]; decide +kernel) (by rw [hc22]; decide +kernel) (by decide) ?_
                                                    refine x_aload_n (pc := 820) B 1 dL_law_820 rfl rfl ?_
                                                    refine x_aload_n (pc := 821) B 0 dL_law_821 rfl rfl ?_
                                                    refine x_iload_n (pc := 822) B 3 dL_law_822 rfl rfl ?_
                                                    refine x_iconst (pc := 823) B dL_law_823 xk_iconst_1 ?_
                                                    refine x_iadd (pc := 824) B dL_law_824 ?_
                                                    obtain ⟨v121, hv, h⟩ := xbind h
                                                    refine x_sld (pc := 825) B hX dL_law_825 hv ?_
                                                    obtain ⟨q122, hq, h⟩ := xbind h
                                                    refine x_callV1 (st := []) (pc := 826) B dL_law_826 (eX3_save hq) xt_591 xt_53 np_X3_save hy_X3_save (Nat.le_of_ble_eq_true rfl) (Nat.le_of_ble_eq_true rfl) (Nat.le_of_ble_eq_true rfl) xt_589 xt_590 xt_588 rfl (iX3_save hq) rfl ?_
                                                    refine x_aload_n (pc := 829) B 2 dL_law_829 rfl rfl ?_
                                                    refine x_aload_n (pc := 830) B 0 dL_law_830 rfl rfl ?_
                                                    refine x_iload_n (pc := 831) B 3 dL_law_831 rfl rfl ?_
                                                    refine x_iconst (pc := 832) B dL_law_832 xk_iconst_1 ?_
                                                    refine x_iadd (pc := 833) B dL_law_833 ?_
                                                    obtain ⟨v123, hv, h⟩ := xbind h
                                                    refine x_sld (pc := 834) B hX dL_law_834 hv ?_
                                                    obtain ⟨q124, hq, h⟩ := xbind h
                                                    refine x_callV1 (st := [.int q122.1]) (pc := 835) B dL_law_835 (eX4_save hq) xt_636 xt_58 np_X4_save hy_X4_save (Nat.le_of_ble_eq_true rfl) (Nat.le_of_ble_eq_true rfl) (Nat.le_of_ble_eq_true rfl) xt_634 xt_635 xt_633 rfl (iX4_save hq) rfl ?_
                                                    rcases xite h with ⟨hc, h⟩ | ⟨hc, h⟩
                                                    · refine x_icmp_eq_t (tgt := 866) (pc := 838) B dL_law_838 (by decide) hc ?_
                                                      refine x_iinc (L1 := [(3, .int (i3 + (6 : Int32))), (0, .ref 4000), (1, .ref a1), (2, .ref a2)]) (pc := 866) B 3 dL_law_866 rfl (congrArg _ xk_iconst_6) (by decide) rfl ?_
                                                      refine x_goto (tgt := 18) (pc := 869) B dL_law_869 (by decide) ?_
                                                      refine x_sub (L1 := [(0, .ref 4000), (1, .ref a1), (2, .ref a2), (3, .int (i3 + (6 : Int32)))]) [1, 2, 3, 0] rfl ?_
                                                      exact ih a1 a2 (i3 + (6 : Int32)) q124.2 h
                                                    · refine x_icmp_eq_f (pc := 838) B 866 dL_law_838 (by decide) hc ?_
                                                      refine x_iconst (pc := 841) B dL_law_841 xk_iconst_0 ?_
                                                      exact x_lret (pc := 842) B hR h1 dL_law_842 h
                                                  · skip
                                                    rcases xite h with ⟨hc23, h⟩ | ⟨hc23, h⟩
                                                    · refine x_tabIn (tgt := 843) (off := 810) (pc := 33) B dL_law_33 (by rw [hc23]; decide +kernel) (by rw [hc23]; decide +kernel) (by rw [hc23]; decide +kernel) (by decide) ?_
                                                      refine x_aload_n (pc := 843) B 1 dL_law_843 rfl rfl ?_
                                                      refine x_aload_n (pc := 844) B 0 dL_law_844 rfl rfl ?_
                                                      refine x_iload_n (pc := 845) B 3 dL_law_845 rfl rfl ?_
                                                      refine x_iconst (pc := 846) B dL_law_846 xk_iconst_1 ?_
                                                      refine x_iadd (pc := 847) B dL_law_847 ?_
                                                      obtain ⟨v125, hv, h⟩ := xbind h
                                                      refine x_sld (pc := 848) B hX dL_law_848 hv ?_
                                                      obtain ⟨q126, hq, h⟩ := xbind h
                                                      refine x_callV1 (st := []) (pc := 849) B dL_law_849 (eX3_restore hq) xt_595 xt_53 np_X3_restore hy_X3_restore (Nat.le_of_ble_eq_true rfl) (Nat.le_of_ble_eq_true rfl) (Nat.le_of_ble_eq_true rfl) xt_593 xt_594 xt_592 rfl (iX3_restore hq) rfl ?_
                                                      refine x_aload_n (pc := 852) B 2 dL_law_852 rfl rfl ?_
                                                      refine x_aload_n (pc := 853) B 0 dL_law_853 rfl rfl ?_
                                                      refine x_iload_n (pc := 854) B 3 dL_law_854 rfl rfl ?_
                                                      refine x_iconst (pc := 855) B dL_law_855 xk_iconst_1 ?_
                                                      refine x_iadd (pc := 856) B dL_law_856 ?_
                                                      obtain ⟨v127, hv, h⟩ := xbind h
                                                      refine x_sld (pc := 857) B hX dL_law_857 hv ?_
                                                      obtain ⟨q128, hq, h⟩ := xbind h
                                                      refine x_callV1 (st := [.int q126.1]) (pc := 858) B dL_law_858 (eX4_restore hq) xt_647 xt_58 np_X4_restore hy_X4_restore (Nat.le_of_ble_eq_true rfl) (Nat.le_of_ble_eq_true rfl) (Nat.le_of_ble_eq_true rfl) xt_645 xt_646 xt_644 rfl (iX4_restore hq) rfl ?_
                                                      rcases xite h with ⟨hc, h⟩ | ⟨hc, h⟩
                                                      · refine x_icmp_eq_t (tgt := 866) (pc := 861) B dL_law_861 (by decide) hc ?_
                                                        refine x_iinc (L1 := [(3, .int (i3 + (6 : Int32))), (0, .ref 4000), (1, .ref a1), (2, .ref a2)]) (pc := 866) B 3 dL_law_866 rfl (congrArg _ xk_iconst_6) (by decide) rfl ?_
                                                        refine x_goto (tgt := 18) (pc := 869) B dL_law_869 (by decide) ?_
                                                        refine x_sub (L1 := [(0, .ref 4000), (1, .ref a1), (2, .ref a2), (3, .int (i3 + (6 : Int32)))]) [1, 2, 3, 0] rfl ?_
                                                        exact ih a1 a2 (i3 + (6 : Int32)) q128.2 h
                                                      · refine x_icmp_eq_f (pc := 861) B 866 dL_law_861 (by decide) hc ?_
                                                        refine x_iconst (pc := 864) B dL_law_864 xk_iconst_0 ?_
                                                        exact x_lret (pc := 865) B hR h1 dL_law_865 h
                                                    · skip
                                                      refine x_tabOut (tgt := 866) (pc := 33) B dL_law_33 ?_ (by decide) ?_
                                                      · have hz0 := lv_neT hc0 (a := 0) (by decide +kernel)
                                                        have hz1 := lv_neT hc1 (a := 1) (by decide +kernel)
                                                        have hz2 := lv_neT hc2 (a := 2) (by decide +kernel)
                                                        have hz3 := lv_neT hc3 (a := 3) (by decide +kernel)
                                                        have hz4 := lv_neT hc4 (a := 4) (by decide +kernel)
                                                        have hz5 := lv_neT hc5 (a := 5) (by decide +kernel)
                                                        have hz6 := lv_neT hc6 (a := 6) (by decide +kernel)
                                                        have hz7 := lv_neT hc7 (a := 7) (by decide +kernel)
                                                        have hz8 := lv_neT hc8 (a := 8) (by decide +kernel)
                                                        have hz9 := lv_neT hc9 (a := 9) (by decide +kernel)
                                                        have hz10 := lv_neT hc10 (a := 10) (by decide +kernel)
                                                        have hz11 := lv_neT hc11 (a := 11) (by decide +kernel)
                                                        have hz12 := lv_neT hc12 (a := 12) (by decide +kernel)
                                                        have hz13 := lv_neT hc13 (a := 13) (by decide +kernel)
                                                        have hz14 := lv_neT hc14 (a := 14) (by decide +kernel)
                                                        have hz15 := lv_neT hc15 (a := 15) (by decide +kernel)
                                                        have hz16 := lv_neT hc16 (a := 16) (by decide +kernel)
                                                        have hz17 := lv_neT hc17 (a := 17) (by decide +kernel)
                                                        have hz18 := lv_neT hc18 (a := 18) (by decide +kernel)
                                                        have hz19 := lv_neT hc19 (a := 19) (by decide +kernel)
                                                        have hz20 := lv_neT hc20 (a := 20) (by decide +kernel)
                                                        have hz21 := lv_neT hc21 (a := 21) (by decide +kernel)
                                                        have hz22 := lv_neT hc22 (a := 22) (by decide +kernel)
                                                        have hz23 := lv_neT hc23 (a := 23) (by decide +kernel)
                                                        omega
                                                      refine x_iinc (L1 := [(3, .int (i3 + (6 : Int32))), (0, .ref 4000), (1, .ref a1), (2, .ref a2)]) (pc := 866) B 3 dL_law_866 rfl (congrArg _ xk_iconst_6) (by decide) rfl ?_
                                                      refine x_goto (tgt := 18) (pc := 869) B dL_law_869 (by decide) ?_
                                                      refine x_sub (L1 := [(0, .ref 4000), (1, .ref a1), (2, .ref a2), (3, .int (i3 + (6 : Int32)))]) [1, 2, 3, 0] rfl ?_
                                                      exact ih a1 a2 (i3 + (6 : Int32)) w h
