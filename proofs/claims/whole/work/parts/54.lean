/-! THE CONSTRUCTORS of the class -/
def f0X : Nat → Int32 := fun k => if k < 12 then 1 else 0
theorem xset_me {w : XW} {k : Nat} {e : XE} (h : w[k]? = some e) : w.set k e = w := by
  apply List.ext_getElem?
  intro i
  by_cases hi : i = k
  · subst hi
    rw [xset_self h, h]
  · rw [xset_get _ (Ne.symm hi)]
theorem s_fillL : ∀ (d g j : Nat) (a : Nat) (w : XW), j + d = 12 → d < g → w[a]? = some (.inl (0, 72, fun k => if k < j then 1 else 0)) → fJ7_fill_fda19_10 g a (nI 12) 1 (nI j) w = some (w.set a (.inl (0, 72, f0X))) := by
  intro d
  induction d with
  | zero =>
    intro g j a w h1 h2 h3
    obtain ⟨g, rfl⟩ : ∃ x, g = x + 1 := ⟨g - 1, by omega⟩
    obtain rfl : j = 12 := by omega
    rw [fJ7_fill_fda19_10, if_pos (by decide +kernel), show f0X = (fun k => if k < 12 then 1 else 0) from rfl, xset_me h3]
  | succ d ih =>
    intro g j a w h1 h2 h3
    obtain ⟨g, rfl⟩ : ∃ x, g = x + 1 := ⟨g - 1, by omega⟩
    have hf : xct 72 (upd (fun k => if k < j then (1 : Int32) else 0) j 1) = fun k => if k < j + 1 then 1 else 0 := by
      funext k
      unfold xct upd
      by_cases hk : k < 72
      · rw [if_pos hk]
        by_cases e : k = j
        · rw [if_pos e, if_pos (by omega)]
        · rw [if_neg e]
          show (if k < j then (1 : Int32) else 0) = _
          by_cases e2 : k < j
          · rw [if_pos e2, if_pos (by omega)]
          · rw [if_neg e2, if_neg (by omega)]
      · rw [if_neg hk, if_neg (by omega)]
    have h4 := xset_self (e := .inl (0, 72, fun k => if k < j + 1 then 1 else 0)) h3
    rw [fJ7_fill_fda19_10, if_neg (nI_ge (by omega) (by omega)), xsI_ok h3 (by omega) (by omega)]
    simp only [ob]
    rw [nI_1, hf, ih g (j + 1) a _ (by omega) (by omega) h4, List.set_set]
theorem s_fill0 {a : Nat} {w w1 : XW} (h : w[a]? = some (.inl (0, 72, fun _ => 0)) ∧ w.set a (.inl (0, 72, f0X)) = w1) : fJ7_fill_fda19 a 0 12 1 w = some w1 := by
  obtain ⟨h, rfl⟩ := h
  have h0 : w[a]? = some (.inl (0, 72, fun k => if k < 0 then 1 else 0)) := h
  unfold fJ7_fill_fda19 fJ7_rangeCheck_23922
  rw [xaL_ok h]
  simp only [ob]
  rw [if_pos (show (0 : Int32) ≤ 12 by decide +kernel), if_pos (show (0 : Int32) ≤ 0 by decide +kernel), if_pos (show (12 : Int32) ≤ nI 72 by decide +kernel)]
  simp only [ob]
  have := s_fillL 12 1000 0 a w (by omega) (by omega) h0
  rw [← xl0, show nI 12 = 12 by decide +kernel] at this
  exact this
set_option maxRecDepth 20000 in
theorem kcX0_init_1 (cx : CX) : Cni yX0_init cX0_init 1 2 46 2 96 cx [.ref 1] [.inr (3, [.null, .null, .null, .null, .null, .null, .int 0]), .inr (0, [.null, .null])] [.inr (3, [.null, .null, .null, .null, .null, .null, .int 0]), .inr (0, [.ref 2, .ref 3]), .inl (0, 72, f0X), .inl (0, 24, fun _ => 0)] := by
  refine Cni_of (by decide +kernel) rfl (Nat.le_of_ble_eq_true rfl) (fun K B M hI hR => ?_)
  show Wx K cx 1 2 0 [(0, .ref 1)] [] _
  have B : XB K cx RX0 cX0_init 1 2 2 46 := B
  refine x_aload_n (pc := 0) B 0 dX0_init_0 rfl rfl ?_
  refine x_oinit (pc := 1) B dX0_init_1 xt_79 (Nat.le_of_ble_eq_true rfl) (Nat.le_of_ble_eq_true rfl) (Nat.le_of_ble_eq_true rfl) ?_
  refine x_aload_n (pc := 4) B 0 dX0_init_4 rfl rfl ?_
  refine x_bipush (v := 72) (pc := 5) B dX0_init_5 (by decide +kernel) ?_
  refine x_newI (w1 := [.inr (3, [.null, .null, .null, .null, .null, .null, .int 0]), .inr (0, [.null, .null]), .inl (0, 72, fun _ => 0)]) (N := 72) (pc := 7) B M dX0_init_7 (by decide +kernel) (by decide +kernel) (Nat.le_of_ble_eq_true rfl) (Nat.le_of_ble_eq_true rfl) (Nat.le_of_ble_eq_true rfl) (Nat.le_of_ble_eq_true rfl) rfl rfl rfl rfl (fun cx1 t1 B M => ?_)
  have T1 := t1
  refine x_putQ (w1 := [.inr (3, [.null, .null, .null, .null, .null, .null, .int 0]), .inr (0, [.ref 2, .null]), .inl (0, 72, fun _ => 0)]) (ci := 0) (fs := [.null, .null]) (ft := tyX0 0) (k0 := 0) (pc := 9) B dX0_init_9 rfl xi_0 (by decide) ⟨rfl, rfl, rfl⟩ xt_86 tyX0_ok nmX0 rfl rfl hI.p (by decide +kernel) (fun _ => rfl) (fun _ => rfl) rfl (by decide) rfl ?_
  refine x_aload_n (pc := 12) B 0 dX0_init_12 rfl rfl ?_
  refine x_bipush (v := 24) (pc := 13) B dX0_init_13 (by decide +kernel) ?_
  refine x_newI (w1 := [.inr (3, [.null, .null, .null, .null, .null, .null, .int 0]), .inr (0, [.ref 2, .null]), .inl (0, 72, fun _ => 0), .inl (0, 24, fun _ => 0)]) (N := 24) (pc := 15) B M dX0_init_15 (by decide +kernel) (by decide +kernel) (Nat.le_of_ble_eq_true rfl) (Nat.le_of_ble_eq_true rfl) (Nat.le_of_ble_eq_true rfl) (Nat.le_of_ble_eq_true rfl) rfl rfl rfl rfl (fun cx2 t2 B M => ?_)
  have T2 := T1.tr t2 (Nat.le_of_ble_eq_true rfl)
  refine x_putQ (w1 := [.inr (3, [.null, .null, .null, .null, .null, .null, .int 0]), .inr (0, [.ref 2, .ref 3]), .inl (0, 72, fun _ => 0), .inl (0, 24, fun _ => 0)]) (ci := 0) (fs := [.ref 2, .null]) (ft := tyX0 1) (k0 := 1) (pc := 17) B dX0_init_17 rfl xi_0 (by decide) ⟨rfl, rfl, rfl⟩ xt_87 tyX0_ok nmX0 rfl rfl hI.p.p (by decide +kernel) (fun _ => rfl) (fun _ => rfl) rfl (by decide) rfl ?_
  refine x_aload_n (pc := 20) B 0 dX0_init_20 rfl rfl ?_
  refine x_getR (x := 2) (ci := 0) (k0 := 0) (pc := 21) B dX0_init_21 rfl xi_0 (by decide) ⟨rfl, rfl, rfl⟩ xt_86 rfl ?_
  refine x_iconst (v := 0) (pc := 24) B dX0_init_24 (by decide +kernel) ?_
  refine x_bipush (v := 12) (pc := 25) B dX0_init_25 (by decide +kernel) ?_
  refine x_iconst (v := 1) (pc := 27) B dX0_init_27 (by decide +kernel) ?_
  refine x_callS0 (w1 := [.inr (3, [.null, .null, .null, .null, .null, .null, .int 0]), .inr (0, [.ref 2, .ref 3]), .inl (0, 72, f0X), .inl (0, 24, fun _ => 0)]) (st := []) (pc := 28) B dX0_init_28 (eJ7_fill_fda19 (s_fill0 ⟨rfl, rfl⟩)) xt_82 xt_55 np_J7_fill_fda19 hy_J7_fill_fda19 (Nat.le_of_ble_eq_true rfl) (Nat.le_of_ble_eq_true rfl) (Nat.le_of_ble_eq_true rfl) xt_81 xt_80 rfl ?_
  exact x_nret (pc := 31) B M (hR.p.p) T2 dX0_init_31 rfl
set_option maxRecDepth 20000 in
theorem kcX0_init_5 (cx : CX) : Cni yX0_init cX0_init 1 2 46 2 96 cx [.ref 5] [.inr (3, [.ref 1, .null, .null, .null, .null, .null, .int 0]), .inr (0, [.ref 2, .ref 3]), .inl (0, 72, f0X), .inl (0, 24, fun _ => 0), .inr (2, [.null, .null, .null, .int 0]), .inr (0, [.null, .null])] [.inr (3, [.ref 1, .null, .null, .null, .null, .null, .int 0]), .inr (0, [.ref 2, .ref 3]), .inl (0, 72, f0X), .inl (0, 24, fun _ => 0), .inr (2, [.null, .null, .null, .int 0]), .inr (0, [.ref 6, .ref 7]), .inl (0, 72, f0X), .inl (0, 24, fun _ => 0)] := by
  refine Cni_of (by decide +kernel) rfl (Nat.le_of_ble_eq_true rfl) (fun K B M hI hR => ?_)
  show Wx K cx 1 6 0 [(0, .ref 5)] [] _
  have B : XB K cx RX0 cX0_init 1 6 2 46 := B
  refine x_aload_n (pc := 0) B 0 dX0_init_0 rfl rfl ?_
  refine x_oinit (pc := 1) B dX0_init_1 xt_79 (Nat.le_of_ble_eq_true rfl) (Nat.le_of_ble_eq_true rfl) (Nat.le_of_ble_eq_true rfl) ?_
  refine x_aload_n (pc := 4) B 0 dX0_init_4 rfl rfl ?_
  refine x_bipush (v := 72) (pc := 5) B dX0_init_5 (by decide +kernel) ?_
  refine x_newI (w1 := [.inr (3, [.ref 1, .null, .null, .null, .null, .null, .int 0]), .inr (0, [.ref 2, .ref 3]), .inl (0, 72, f0X), .inl (0, 24, fun _ => 0), .inr (2, [.null, .null, .null, .int 0]), .inr (0, [.null, .null]), .inl (0, 72, fun _ => 0)]) (N := 72) (pc := 7) B M dX0_init_7 (by decide +kernel) (by decide +kernel) (Nat.le_of_ble_eq_true rfl) (Nat.le_of_ble_eq_true rfl) (Nat.le_of_ble_eq_true rfl) (Nat.le_of_ble_eq_true rfl) rfl rfl rfl rfl (fun cx1 t1 B M => ?_)
  have T1 := t1
  refine x_putQ (w1 := [.inr (3, [.ref 1, .null, .null, .null, .null, .null, .int 0]), .inr (0, [.ref 2, .ref 3]), .inl (0, 72, f0X), .inl (0, 24, fun _ => 0), .inr (2, [.null, .null, .null, .int 0]), .inr (0, [.ref 6, .null]), .inl (0, 72, fun _ => 0)]) (ci := 0) (fs := [.null, .null]) (ft := tyX0 0) (k0 := 0) (pc := 9) B dX0_init_9 rfl xi_0 (by decide) ⟨rfl, rfl, rfl⟩ xt_86 tyX0_ok nmX0 rfl rfl hI.p (by decide +kernel) (fun _ => rfl) (fun _ => rfl) rfl (by decide) rfl ?_
  refine x_aload_n (pc := 12) B 0 dX0_init_12 rfl rfl ?_
  refine x_bipush (v := 24) (pc := 13) B dX0_init_13 (by decide +kernel) ?_
  refine x_newI (w1 := [.inr (3, [.ref 1, .null, .null, .null, .null, .null, .int 0]), .inr (0, [.ref 2, .ref 3]), .inl (0, 72, f0X), .inl (0, 24, fun _ => 0), .inr (2, [.null, .null, .null, .int 0]), .inr (0, [.ref 6, .null]), .inl (0, 72, fun _ => 0), .inl (0, 24, fun _ => 0)]) (N := 24) (pc := 15) B M dX0_init_15 (by decide +kernel) (by decide +kernel) (Nat.le_of_ble_eq_true rfl) (Nat.le_of_ble_eq_true rfl) (Nat.le_of_ble_eq_true rfl) (Nat.le_of_ble_eq_true rfl) rfl rfl rfl rfl (fun cx2 t2 B M => ?_)
  have T2 := T1.tr t2 (Nat.le_of_ble_eq_true rfl)
  refine x_putQ (w1 := [.inr (3, [.ref 1, .null, .null, .null, .null, .null, .int 0]), .inr (0, [.ref 2, .ref 3]), .inl (0, 72, f0X), .inl (0, 24, fun _ => 0), .inr (2, [.null, .null, .null, .int 0]), .inr (0, [.ref 6, .ref 7]), .inl (0, 72, fun _ => 0), .inl (0, 24, fun _ => 0)]) (ci := 0) (fs := [.ref 6, .null]) (ft := tyX0 1) (k0 := 1) (pc := 17) B dX0_init_17 rfl xi_0 (by decide) ⟨rfl, rfl, rfl⟩ xt_87 tyX0_ok nmX0 rfl rfl hI.p.p (by decide +kernel) (fun _ => rfl) (fun _ => rfl) rfl (by decide) rfl ?_
  refine x_aload_n (pc := 20) B 0 dX0_init_20 rfl rfl ?_
  refine x_getR (x := 6) (ci := 0) (k0 := 0) (pc := 21) B dX0_init_21 rfl xi_0 (by decide) ⟨rfl, rfl, rfl⟩ xt_86 rfl ?_
  refine x_iconst (v := 0) (pc := 24) B dX0_init_24 (by decide +kernel) ?_
  refine x_bipush (v := 12) (pc := 25) B dX0_init_25 (by decide +kernel) ?_
  refine x_iconst (v := 1) (pc := 27) B dX0_init_27 (by decide +kernel) ?_
  refine x_callS0 (w1 := [.inr (3, [.ref 1, .null, .null, .null, .null, .null, .int 0]), .inr (0, [.ref 2, .ref 3]), .inl (0, 72, f0X), .inl (0, 24, fun _ => 0), .inr (2, [.null, .null, .null, .int 0]), .inr (0, [.ref 6, .ref 7]), .inl (0, 72, f0X), .inl (0, 24, fun _ => 0)]) (st := []) (pc := 28) B dX0_init_28 (eJ7_fill_fda19 (s_fill0 ⟨rfl, rfl⟩)) xt_82 xt_55 np_J7_fill_fda19 hy_J7_fill_fda19 (Nat.le_of_ble_eq_true rfl) (Nat.le_of_ble_eq_true rfl) (Nat.le_of_ble_eq_true rfl) xt_81 xt_80 rfl ?_
  exact x_nret (pc := 31) B M (hR.p.p) T2 dX0_init_31 rfl
set_option maxRecDepth 20000 in
theorem kcX2_init_4 (cx : CX) : Cni yX2_init cX2_init 1 3 66 5 832 cx [.ref 4] [.inr (3, [.ref 1, .null, .null, .null, .null, .null, .int 0]), .inr (0, [.ref 2, .ref 3]), .inl (0, 72, f0X), .inl (0, 24, fun _ => 0), .inr (2, [.null, .null, .null, .int 0])] [.inr (3, [.ref 1, .null, .null, .null, .null, .null, .int 0]), .inr (0, [.ref 2, .ref 3]), .inl (0, 72, f0X), .inl (0, 24, fun _ => 0), .inr (2, [.ref 5, .ref 8, .ref 9, .int 0]), .inr (0, [.ref 6, .ref 7]), .inl (0, 72, f0X), .inl (0, 24, fun _ => 0), .inl (0, 729, fun _ => 0), .inl (0, 5, fun _ => 0)] := by
  refine Cni_of (by decide +kernel) rfl (Nat.le_of_ble_eq_true rfl) (fun K B M hI hR => ?_)
  show Wx K cx 1 5 0 [(0, .ref 4)] [] _
  have B : XB K cx RX2 cX2_init 1 5 3 66 := B
  refine x_aload_n (pc := 0) B 0 dX2_init_0 rfl rfl ?_
  refine x_oinit (pc := 1) B dX2_init_1 xt_96 (Nat.le_of_ble_eq_true rfl) (Nat.le_of_ble_eq_true rfl) (Nat.le_of_ble_eq_true rfl) ?_
  refine x_aload_n (pc := 4) B 0 dX2_init_4 rfl rfl ?_
  refine x_new (w1 := [.inr (3, [.ref 1, .null, .null, .null, .null, .null, .int 0]), .inr (0, [.ref 2, .ref 3]), .inl (0, 72, f0X), .inl (0, 24, fun _ => 0), .inr (2, [.null, .null, .null, .int 0]), .inr (0, [.null, .null])]) (ci := 0) (N := 2) (ty := tyX0) (fs := [.null, .null]) (pc := 5) B M dX2_init_5 rfl xi_0 tyX0_ok xt_97 xu_0 xt_54 (fun j hj => by rcases (show j = 0 ∨ j = 1 by omega) with rfl | rfl <;> rfl) rfl rfl (Nat.le_of_ble_eq_true rfl) (Nat.le_of_ble_eq_true rfl) (Nat.le_of_ble_eq_true rfl) rfl rfl rfl rfl (fun cx1 t1 B M => ?_)
  have T1 := t1
  refine x_dup (pc := 8) B dX2_init_8 rfl ?_
  refine x_callI (w1 := [.inr (3, [.ref 1, .null, .null, .null, .null, .null, .int 0]), .inr (0, [.ref 2, .ref 3]), .inl (0, 72, f0X), .inl (0, 24, fun _ => 0), .inr (2, [.null, .null, .null, .int 0]), .inr (0, [.ref 6, .ref 7]), .inl (0, 72, f0X), .inl (0, 24, fun _ => 0)]) (n1 := 8) (pc := 9) B M dX2_init_9 (kcX0_init_5 _) xt_78 xt_54 (by decide +kernel) ⟨by decide +kernel, by decide +kernel⟩ rfl (Nat.le_of_ble_eq_true rfl) (Nat.le_of_ble_eq_true rfl) (Nat.le_of_ble_eq_true rfl) xt_77 xt_98 (Nat.le_of_ble_eq_true rfl) (Nat.le_of_ble_eq_true rfl) rfl (Nat.le_of_ble_eq_true rfl) (Nat.le_of_ble_eq_true rfl) rfl rfl (fun cx2 t2 B M => ?_)
  have T2 := T1.tr t2 (Nat.le_of_ble_eq_true rfl)
  refine x_putQ (w1 := [.inr (3, [.ref 1, .null, .null, .null, .null, .null, .int 0]), .inr (0, [.ref 2, .ref 3]), .inl (0, 72, f0X), .inl (0, 24, fun _ => 0), .inr (2, [.ref 5, .null, .null, .int 0]), .inr (0, [.ref 6, .ref 7]), .inl (0, 72, f0X), .inl (0, 24, fun _ => 0)]) (ci := 2) (fs := [.null, .null, .null, .int 0]) (ft := tyX2 0) (k0 := 0) (pc := 12) B dX2_init_12 rfl xi_2 (by decide) ⟨rfl, rfl, rfl⟩ xt_99 tyX2_ok nmX2 rfl rfl hI.p.p (by decide +kernel) (fun _ => rfl) (fun _ => rfl) rfl (by decide) rfl ?_
  refine x_aload_n (pc := 15) B 0 dX2_init_15 rfl rfl ?_
  refine x_sipush (v := 729) (pc := 16) B dX2_init_16 (by decide +kernel) ?_
  refine x_newI (w1 := [.inr (3, [.ref 1, .null, .null, .null, .null, .null, .int 0]), .inr (0, [.ref 2, .ref 3]), .inl (0, 72, f0X), .inl (0, 24, fun _ => 0), .inr (2, [.ref 5, .null, .null, .int 0]), .inr (0, [.ref 6, .ref 7]), .inl (0, 72, f0X), .inl (0, 24, fun _ => 0), .inl (0, 729, fun _ => 0)]) (N := 729) (pc := 19) B M dX2_init_19 (by decide +kernel) (by decide +kernel) (Nat.le_of_ble_eq_true rfl) (Nat.le_of_ble_eq_true rfl) (Nat.le_of_ble_eq_true rfl) (Nat.le_of_ble_eq_true rfl) rfl rfl rfl rfl (fun cx3 t3 B M => ?_)
  have T3 := T2.tr t3 (Nat.le_of_ble_eq_true rfl)
  refine x_putQ (w1 := [.inr (3, [.ref 1, .null, .null, .null, .null, .null, .int 0]), .inr (0, [.ref 2, .ref 3]), .inl (0, 72, f0X), .inl (0, 24, fun _ => 0), .inr (2, [.ref 5, .ref 8, .null, .int 0]), .inr (0, [.ref 6, .ref 7]), .inl (0, 72, f0X), .inl (0, 24, fun _ => 0), .inl (0, 729, fun _ => 0)]) (ci := 2) (fs := [.ref 5, .null, .null, .int 0]) (ft := tyX2 1) (k0 := 1) (pc := 21) B dX2_init_21 rfl xi_2 (by decide) ⟨rfl, rfl, rfl⟩ xt_100 tyX2_ok nmX2 rfl rfl hI.p.p.p (by decide +kernel) (fun _ => rfl) (fun _ => rfl) rfl (by decide) rfl ?_
  refine x_aload_n (pc := 24) B 0 dX2_init_24 rfl rfl ?_
  refine x_iconst (v := 5) (pc := 25) B dX2_init_25 (by decide +kernel) ?_
  refine x_newI (w1 := [.inr (3, [.ref 1, .null, .null, .null, .null, .null, .int 0]), .inr (0, [.ref 2, .ref 3]), .inl (0, 72, f0X), .inl (0, 24, fun _ => 0), .inr (2, [.ref 5, .ref 8, .null, .int 0]), .inr (0, [.ref 6, .ref 7]), .inl (0, 72, f0X), .inl (0, 24, fun _ => 0), .inl (0, 729, fun _ => 0), .inl (0, 5, fun _ => 0)]) (N := 5) (pc := 26) B M dX2_init_26 (by decide +kernel) (by decide +kernel) (Nat.le_of_ble_eq_true rfl) (Nat.le_of_ble_eq_true rfl) (Nat.le_of_ble_eq_true rfl) (Nat.le_of_ble_eq_true rfl) rfl rfl rfl rfl (fun cx4 t4 B M => ?_)
  have T4 := T3.tr t4 (Nat.le_of_ble_eq_true rfl)
  refine x_putQ (w1 := [.inr (3, [.ref 1, .null, .null, .null, .null, .null, .int 0]), .inr (0, [.ref 2, .ref 3]), .inl (0, 72, f0X), .inl (0, 24, fun _ => 0), .inr (2, [.ref 5, .ref 8, .ref 9, .int 0]), .inr (0, [.ref 6, .ref 7]), .inl (0, 72, f0X), .inl (0, 24, fun _ => 0), .inl (0, 729, fun _ => 0), .inl (0, 5, fun _ => 0)]) (ci := 2) (fs := [.ref 5, .ref 8, .null, .int 0]) (ft := tyX2 2) (k0 := 2) (pc := 28) B dX2_init_28 rfl xi_2 (by decide) ⟨rfl, rfl, rfl⟩ xt_101 tyX2_ok nmX2 rfl rfl hI.p.p.p.p (by decide +kernel) (fun _ => rfl) (fun _ => rfl) rfl (by decide) rfl ?_
  refine x_aload_n (pc := 31) B 0 dX2_init_31 rfl rfl ?_
  refine x_iconst (v := 0) (pc := 32) B dX2_init_32 (by decide +kernel) ?_
  refine x_putZ (w1 := [.inr (3, [.ref 1, .null, .null, .null, .null, .null, .int 0]), .inr (0, [.ref 2, .ref 3]), .inl (0, 72, f0X), .inl (0, 24, fun _ => 0), .inr (2, [.ref 5, .ref 8, .ref 9, .int 0]), .inr (0, [.ref 6, .ref 7]), .inl (0, 72, f0X), .inl (0, 24, fun _ => 0), .inl (0, 729, fun _ => 0), .inl (0, 5, fun _ => 0)]) (ci := 2) (k0 := 3) (pc := 33) B dX2_init_33 rfl xi_2 (by decide) ⟨rfl, rfl, rfl⟩ xt_102 tyX2_ok nmX2 rfl xpdZ rfl ?_
  exact x_nret (pc := 36) B M (hR.p.p.p.p) T4 dX2_init_36 rfl
set_option maxRecDepth 20000 in
theorem kcX1_init_10 (cx : CX) : Cni yX1_init cX1_init 1 1 20 1 80 cx [.ref 10] [.inr (3, [.ref 1, .ref 4, .null, .null, .null, .null, .int 0]), .inr (0, [.ref 2, .ref 3]), .inl (0, 72, f0X), .inl (0, 24, fun _ => 0), .inr (2, [.ref 5, .ref 8, .ref 9, .int 0]), .inr (0, [.ref 6, .ref 7]), .inl (0, 72, f0X), .inl (0, 24, fun _ => 0), .inl (0, 729, fun _ => 0), .inl (0, 5, fun _ => 0), .inr (1, [.null, .int 0])] [.inr (3, [.ref 1, .ref 4, .null, .null, .null, .null, .int 0]), .inr (0, [.ref 2, .ref 3]), .inl (0, 72, f0X), .inl (0, 24, fun _ => 0), .inr (2, [.ref 5, .ref 8, .ref 9, .int 0]), .inr (0, [.ref 6, .ref 7]), .inl (0, 72, f0X), .inl (0, 24, fun _ => 0), .inl (0, 729, fun _ => 0), .inl (0, 5, fun _ => 0), .inr (1, [.ref 11, .int 0]), .inl (0, 80, fun _ => 0)] := by
  refine Cni_of (by decide +kernel) rfl (Nat.le_of_ble_eq_true rfl) (fun K B M hI hR => ?_)
  show Wx K cx 1 11 0 [(0, .ref 10)] [] _
  have B : XB K cx RX1 cX1_init 1 11 1 20 := B
  refine x_aload_n (pc := 0) B 0 dX1_init_0 rfl rfl ?_
  refine x_oinit (pc := 1) B dX1_init_1 xt_112 (Nat.le_of_ble_eq_true rfl) (Nat.le_of_ble_eq_true rfl) (Nat.le_of_ble_eq_true rfl) ?_
  refine x_aload_n (pc := 4) B 0 dX1_init_4 rfl rfl ?_
  refine x_bipush (v := 80) (pc := 5) B dX1_init_5 (by decide +kernel) ?_
  refine x_newI (w1 := [.inr (3, [.ref 1, .ref 4, .null, .null, .null, .null, .int 0]), .inr (0, [.ref 2, .ref 3]), .inl (0, 72, f0X), .inl (0, 24, fun _ => 0), .inr (2, [.ref 5, .ref 8, .ref 9, .int 0]), .inr (0, [.ref 6, .ref 7]), .inl (0, 72, f0X), .inl (0, 24, fun _ => 0), .inl (0, 729, fun _ => 0), .inl (0, 5, fun _ => 0), .inr (1, [.null, .int 0]), .inl (0, 80, fun _ => 0)]) (N := 80) (pc := 7) B M dX1_init_7 (by decide +kernel) (by decide +kernel) (Nat.le_of_ble_eq_true rfl) (Nat.le_of_ble_eq_true rfl) (Nat.le_of_ble_eq_true rfl) (Nat.le_of_ble_eq_true rfl) rfl rfl rfl rfl (fun cx1 t1 B M => ?_)
  have T1 := t1
  refine x_putQ (w1 := [.inr (3, [.ref 1, .ref 4, .null, .null, .null, .null, .int 0]), .inr (0, [.ref 2, .ref 3]), .inl (0, 72, f0X), .inl (0, 24, fun _ => 0), .inr (2, [.ref 5, .ref 8, .ref 9, .int 0]), .inr (0, [.ref 6, .ref 7]), .inl (0, 72, f0X), .inl (0, 24, fun _ => 0), .inl (0, 729, fun _ => 0), .inl (0, 5, fun _ => 0), .inr (1, [.ref 11, .int 0]), .inl (0, 80, fun _ => 0)]) (ci := 1) (fs := [.null, .int 0]) (ft := tyX1 0) (k0 := 0) (pc := 9) B dX1_init_9 rfl xi_1 (by decide) ⟨rfl, rfl, rfl⟩ xt_113 tyX1_ok nmX1 rfl rfl hI.p (by decide +kernel) (fun _ => rfl) (fun _ => rfl) rfl (by decide) rfl ?_
  refine x_aload_n (pc := 12) B 0 dX1_init_12 rfl rfl ?_
  refine x_iconst (v := 0) (pc := 13) B dX1_init_13 (by decide +kernel) ?_
  refine x_putI (w1 := [.inr (3, [.ref 1, .ref 4, .null, .null, .null, .null, .int 0]), .inr (0, [.ref 2, .ref 3]), .inl (0, 72, f0X), .inl (0, 24, fun _ => 0), .inr (2, [.ref 5, .ref 8, .ref 9, .int 0]), .inr (0, [.ref 6, .ref 7]), .inl (0, 72, f0X), .inl (0, 24, fun _ => 0), .inl (0, 729, fun _ => 0), .inl (0, 5, fun _ => 0), .inr (1, [.ref 11, .int 0]), .inl (0, 80, fun _ => 0)]) (ci := 1) (k0 := 1) (pc := 14) B dX1_init_14 rfl xi_1 (by decide) ⟨rfl, rfl, rfl⟩ xt_114 tyX1_ok nmX1 rfl xpdI rfl ?_
  exact x_nret (pc := 17) B M (hR.p) T1 dX1_init_17 rfl
set_option maxRecDepth 20000 in
theorem kcX3_init_0 (cx : CX) : Cni yX3_init cX3_init 1 4 86 14 1594 cx [.ref 0] [.inr (3, [.null, .null, .null, .null, .null, .null, .int 0])] [.inr (3, [.ref 1, .ref 4, .ref 10, .ref 12, .ref 13, .ref 14, .int 0]), .inr (0, [.ref 2, .ref 3]), .inl (0, 72, f0X), .inl (0, 24, fun _ => 0), .inr (2, [.ref 5, .ref 8, .ref 9, .int 0]), .inr (0, [.ref 6, .ref 7]), .inl (0, 72, f0X), .inl (0, 24, fun _ => 0), .inl (0, 729, fun _ => 0), .inl (0, 5, fun _ => 0), .inr (1, [.ref 11, .int 0]), .inl (0, 80, fun _ => 0), .inl (0, 432, fun _ => 0), .inl (0, 144, fun _ => 0), .inl (1, 2, fun _ => 0)] := by
  refine Cni_of (by decide +kernel) rfl (Nat.le_of_ble_eq_true rfl) (fun K B M hI hR => ?_)
  show Wx K cx 1 1 0 [(0, .ref 0)] [] _
  have B : XB K cx RX3 cX3_init 1 1 4 86 := B
  refine x_aload_n (pc := 0) B 0 dX3_init_0 rfl rfl ?_
  refine x_oinit (pc := 1) B dX3_init_1 xt_71 (Nat.le_of_ble_eq_true rfl) (Nat.le_of_ble_eq_true rfl) (Nat.le_of_ble_eq_true rfl) ?_
  refine x_aload_n (pc := 4) B 0 dX3_init_4 rfl rfl ?_
  refine x_new (w1 := [.inr (3, [.null, .null, .null, .null, .null, .null, .int 0]), .inr (0, [.null, .null])]) (ci := 0) (N := 2) (ty := tyX0) (fs := [.null, .null]) (pc := 5) B M dX3_init_5 rfl xi_0 tyX0_ok xt_74 xu_0 xt_54 (fun j hj => by rcases (show j = 0 ∨ j = 1 by omega) with rfl | rfl <;> rfl) rfl rfl (Nat.le_of_ble_eq_true rfl) (Nat.le_of_ble_eq_true rfl) (Nat.le_of_ble_eq_true rfl) rfl rfl rfl rfl (fun cx1 t1 B M => ?_)
  have T1 := t1
  refine x_dup (pc := 8) B dX3_init_8 rfl ?_
  refine x_callI (w1 := [.inr (3, [.null, .null, .null, .null, .null, .null, .int 0]), .inr (0, [.ref 2, .ref 3]), .inl (0, 72, f0X), .inl (0, 24, fun _ => 0)]) (n1 := 4) (pc := 9) B M dX3_init_9 (kcX0_init_1 _) xt_78 xt_54 (by decide +kernel) ⟨by decide +kernel, by decide +kernel⟩ rfl (Nat.le_of_ble_eq_true rfl) (Nat.le_of_ble_eq_true rfl) (Nat.le_of_ble_eq_true rfl) xt_77 xt_76 (Nat.le_of_ble_eq_true rfl) (Nat.le_of_ble_eq_true rfl) rfl (Nat.le_of_ble_eq_true rfl) (Nat.le_of_ble_eq_true rfl) rfl rfl (fun cx2 t2 B M => ?_)
  have T2 := T1.tr t2 (Nat.le_of_ble_eq_true rfl)
  refine x_putQ (w1 := [.inr (3, [.ref 1, .null, .null, .null, .null, .null, .int 0]), .inr (0, [.ref 2, .ref 3]), .inl (0, 72, f0X), .inl (0, 24, fun _ => 0)]) (ci := 3) (fs := [.null, .null, .null, .null, .null, .null, .int 0]) (ft := tyX3 0) (k0 := 0) (pc := 12) B dX3_init_12 rfl xi_3 (by decide) ⟨rfl, rfl, rfl⟩ xt_117 tyX3_ok nmX3 rfl rfl hI.p.p (by decide +kernel) (fun _ => rfl) (fun _ => rfl) rfl (by decide) rfl ?_
  refine x_aload_n (pc := 15) B 0 dX3_init_15 rfl rfl ?_
  refine x_new (w1 := [.inr (3, [.ref 1, .null, .null, .null, .null, .null, .int 0]), .inr (0, [.ref 2, .ref 3]), .inl (0, 72, f0X), .inl (0, 24, fun _ => 0), .inr (2, [.null, .null, .null, .int 0])]) (ci := 2) (N := 4) (ty := tyX2) (fs := [.null, .null, .null, .int 0]) (pc := 16) B M dX3_init_16 rfl xi_2 tyX2_ok xt_91 xu_2 xt_56 (fun j hj => by rcases (show j = 0 ∨ j = 1 ∨ j = 2 ∨ j = 3 by omega) with rfl | rfl | rfl | rfl <;> rfl) rfl rfl (Nat.le_of_ble_eq_true rfl) (Nat.le_of_ble_eq_true rfl) (Nat.le_of_ble_eq_true rfl) rfl rfl rfl rfl (fun cx3 t3 B M => ?_)
  have T3 := T2.tr t3 (Nat.le_of_ble_eq_true rfl)
  refine x_dup (pc := 19) B dX3_init_19 rfl ?_
  refine x_callI (w1 := [.inr (3, [.ref 1, .null, .null, .null, .null, .null, .int 0]), .inr (0, [.ref 2, .ref 3]), .inl (0, 72, f0X), .inl (0, 24, fun _ => 0), .inr (2, [.ref 5, .ref 8, .ref 9, .int 0]), .inr (0, [.ref 6, .ref 7]), .inl (0, 72, f0X), .inl (0, 24, fun _ => 0), .inl (0, 729, fun _ => 0), .inl (0, 5, fun _ => 0)]) (n1 := 10) (pc := 20) B M dX3_init_20 (kcX2_init_4 _) xt_95 xt_56 (by decide +kernel) ⟨by decide +kernel, by decide +kernel⟩ rfl (Nat.le_of_ble_eq_true rfl) (Nat.le_of_ble_eq_true rfl) (Nat.le_of_ble_eq_true rfl) xt_94 xt_93 (Nat.le_of_ble_eq_true rfl) (Nat.le_of_ble_eq_true rfl) rfl (Nat.le_of_ble_eq_true rfl) (Nat.le_of_ble_eq_true rfl) rfl rfl (fun cx4 t4 B M => ?_)
  have T4 := T3.tr t4 (Nat.le_of_ble_eq_true rfl)
  refine x_putQ (w1 := [.inr (3, [.ref 1, .ref 4, .null, .null, .null, .null, .int 0]), .inr (0, [.ref 2, .ref 3]), .inl (0, 72, f0X), .inl (0, 24, fun _ => 0), .inr (2, [.ref 5, .ref 8, .ref 9, .int 0]), .inr (0, [.ref 6, .ref 7]), .inl (0, 72, f0X), .inl (0, 24, fun _ => 0), .inl (0, 729, fun _ => 0), .inl (0, 5, fun _ => 0)]) (ci := 3) (fs := [.ref 1, .null, .null, .null, .null, .null, .int 0]) (ft := tyX3 1) (k0 := 1) (pc := 23) B dX3_init_23 rfl xi_3 (by decide) ⟨rfl, rfl, rfl⟩ xt_118 tyX3_ok nmX3 rfl rfl hI.p.p.p.p (by decide +kernel) (fun _ => rfl) (fun _ => rfl) rfl (by decide) rfl ?_
  refine x_aload_n (pc := 26) B 0 dX3_init_26 rfl rfl ?_
  refine x_new (w1 := [.inr (3, [.ref 1, .ref 4, .null, .null, .null, .null, .int 0]), .inr (0, [.ref 2, .ref 3]), .inl (0, 72, f0X), .inl (0, 24, fun _ => 0), .inr (2, [.ref 5, .ref 8, .ref 9, .int 0]), .inr (0, [.ref 6, .ref 7]), .inl (0, 72, f0X), .inl (0, 24, fun _ => 0), .inl (0, 729, fun _ => 0), .inl (0, 5, fun _ => 0), .inr (1, [.null, .int 0])]) (ci := 1) (N := 2) (ty := tyX1) (fs := [.null, .int 0]) (pc := 27) B M dX3_init_27 rfl xi_1 tyX1_ok xt_107 xu_1 xt_57 (fun j hj => by rcases (show j = 0 ∨ j = 1 by omega) with rfl | rfl <;> rfl) rfl rfl (Nat.le_of_ble_eq_true rfl) (Nat.le_of_ble_eq_true rfl) (Nat.le_of_ble_eq_true rfl) rfl rfl rfl rfl (fun cx5 t5 B M => ?_)
  have T5 := T4.tr t5 (Nat.le_of_ble_eq_true rfl)
  refine x_dup (pc := 30) B dX3_init_30 rfl ?_
  refine x_callI (w1 := [.inr (3, [.ref 1, .ref 4, .null, .null, .null, .null, .int 0]), .inr (0, [.ref 2, .ref 3]), .inl (0, 72, f0X), .inl (0, 24, fun _ => 0), .inr (2, [.ref 5, .ref 8, .ref 9, .int 0]), .inr (0, [.ref 6, .ref 7]), .inl (0, 72, f0X), .inl (0, 24, fun _ => 0), .inl (0, 729, fun _ => 0), .inl (0, 5, fun _ => 0), .inr (1, [.ref 11, .int 0]), .inl (0, 80, fun _ => 0)]) (n1 := 12) (pc := 31) B M dX3_init_31 (kcX1_init_10 _) xt_111 xt_57 (by decide +kernel) ⟨by decide +kernel, by decide +kernel⟩ rfl (Nat.le_of_ble_eq_true rfl) (Nat.le_of_ble_eq_true rfl) (Nat.le_of_ble_eq_true rfl) xt_110 xt_109 (Nat.le_of_ble_eq_true rfl) (Nat.le_of_ble_eq_true rfl) rfl (Nat.le_of_ble_eq_true rfl) (Nat.le_of_ble_eq_true rfl) rfl rfl (fun cx6 t6 B M => ?_)
  have T6 := T5.tr t6 (Nat.le_of_ble_eq_true rfl)
  refine x_putQ (w1 := [.inr (3, [.ref 1, .ref 4, .ref 10, .null, .null, .null, .int 0]), .inr (0, [.ref 2, .ref 3]), .inl (0, 72, f0X), .inl (0, 24, fun _ => 0), .inr (2, [.ref 5, .ref 8, .ref 9, .int 0]), .inr (0, [.ref 6, .ref 7]), .inl (0, 72, f0X), .inl (0, 24, fun _ => 0), .inl (0, 729, fun _ => 0), .inl (0, 5, fun _ => 0), .inr (1, [.ref 11, .int 0]), .inl (0, 80, fun _ => 0)]) (ci := 3) (fs := [.ref 1, .ref 4, .null, .null, .null, .null, .int 0]) (ft := tyX3 2) (k0 := 2) (pc := 34) B dX3_init_34 rfl xi_3 (by decide) ⟨rfl, rfl, rfl⟩ xt_119 tyX3_ok nmX3 rfl rfl hI.p.p.p.p.p.p (by decide +kernel) (fun _ => rfl) (fun _ => rfl) rfl (by decide) rfl ?_
  refine x_aload_n (pc := 37) B 0 dX3_init_37 rfl rfl ?_
  refine x_sipush (v := 432) (pc := 38) B dX3_init_38 (by decide +kernel) ?_
  refine x_newI (w1 := [.inr (3, [.ref 1, .ref 4, .ref 10, .null, .null, .null, .int 0]), .inr (0, [.ref 2, .ref 3]), .inl (0, 72, f0X), .inl (0, 24, fun _ => 0), .inr (2, [.ref 5, .ref 8, .ref 9, .int 0]), .inr (0, [.ref 6, .ref 7]), .inl (0, 72, f0X), .inl (0, 24, fun _ => 0), .inl (0, 729, fun _ => 0), .inl (0, 5, fun _ => 0), .inr (1, [.ref 11, .int 0]), .inl (0, 80, fun _ => 0), .inl (0, 432, fun _ => 0)]) (N := 432) (pc := 41) B M dX3_init_41 (by decide +kernel) (by decide +kernel) (Nat.le_of_ble_eq_true rfl) (Nat.le_of_ble_eq_true rfl) (Nat.le_of_ble_eq_true rfl) (Nat.le_of_ble_eq_true rfl) rfl rfl rfl rfl (fun cx7 t7 B M => ?_)
  have T7 := T6.tr t7 (Nat.le_of_ble_eq_true rfl)
  refine x_putQ (w1 := [.inr (3, [.ref 1, .ref 4, .ref 10, .ref 12, .null, .null, .int 0]), .inr (0, [.ref 2, .ref 3]), .inl (0, 72, f0X), .inl (0, 24, fun _ => 0), .inr (2, [.ref 5, .ref 8, .ref 9, .int 0]), .inr (0, [.ref 6, .ref 7]), .inl (0, 72, f0X), .inl (0, 24, fun _ => 0), .inl (0, 729, fun _ => 0), .inl (0, 5, fun _ => 0), .inr (1, [.ref 11, .int 0]), .inl (0, 80, fun _ => 0), .inl (0, 432, fun _ => 0)]) (ci := 3) (fs := [.ref 1, .ref 4, .ref 10, .null, .null, .null, .int 0]) (ft := tyX3 3) (k0 := 3) (pc := 43) B dX3_init_43 rfl xi_3 (by decide) ⟨rfl, rfl, rfl⟩ xt_120 tyX3_ok nmX3 rfl rfl hI.p.p.p.p.p.p.p (by decide +kernel) (fun _ => rfl) (fun _ => rfl) rfl (by decide) rfl ?_
  refine x_aload_n (pc := 46) B 0 dX3_init_46 rfl rfl ?_
  refine x_sipush (v := 144) (pc := 47) B dX3_init_47 (by decide +kernel) ?_
  refine x_newI (w1 := [.inr (3, [.ref 1, .ref 4, .ref 10, .ref 12, .null, .null, .int 0]), .inr (0, [.ref 2, .ref 3]), .inl (0, 72, f0X), .inl (0, 24, fun _ => 0), .inr (2, [.ref 5, .ref 8, .ref 9, .int 0]), .inr (0, [.ref 6, .ref 7]), .inl (0, 72, f0X), .inl (0, 24, fun _ => 0), .inl (0, 729, fun _ => 0), .inl (0, 5, fun _ => 0), .inr (1, [.ref 11, .int 0]), .inl (0, 80, fun _ => 0), .inl (0, 432, fun _ => 0), .inl (0, 144, fun _ => 0)]) (N := 144) (pc := 50) B M dX3_init_50 (by decide +kernel) (by decide +kernel) (Nat.le_of_ble_eq_true rfl) (Nat.le_of_ble_eq_true rfl) (Nat.le_of_ble_eq_true rfl) (Nat.le_of_ble_eq_true rfl) rfl rfl rfl rfl (fun cx8 t8 B M => ?_)
  have T8 := T7.tr t8 (Nat.le_of_ble_eq_true rfl)
  refine x_putQ (w1 := [.inr (3, [.ref 1, .ref 4, .ref 10, .ref 12, .ref 13, .null, .int 0]), .inr (0, [.ref 2, .ref 3]), .inl (0, 72, f0X), .inl (0, 24, fun _ => 0), .inr (2, [.ref 5, .ref 8, .ref 9, .int 0]), .inr (0, [.ref 6, .ref 7]), .inl (0, 72, f0X), .inl (0, 24, fun _ => 0), .inl (0, 729, fun _ => 0), .inl (0, 5, fun _ => 0), .inr (1, [.ref 11, .int 0]), .inl (0, 80, fun _ => 0), .inl (0, 432, fun _ => 0), .inl (0, 144, fun _ => 0)]) (ci := 3) (fs := [.ref 1, .ref 4, .ref 10, .ref 12, .null, .null, .int 0]) (ft := tyX3 4) (k0 := 4) (pc := 52) B dX3_init_52 rfl xi_3 (by decide) ⟨rfl, rfl, rfl⟩ xt_121 tyX3_ok nmX3 rfl rfl hI.p.p.p.p.p.p.p.p (by decide +kernel) (fun _ => rfl) (fun _ => rfl) rfl (by decide) rfl ?_
  refine x_aload_n (pc := 55) B 0 dX3_init_55 rfl rfl ?_
  refine x_iconst (v := 2) (pc := 56) B dX3_init_56 (by decide +kernel) ?_
  refine x_newZ (w1 := [.inr (3, [.ref 1, .ref 4, .ref 10, .ref 12, .ref 13, .null, .int 0]), .inr (0, [.ref 2, .ref 3]), .inl (0, 72, f0X), .inl (0, 24, fun _ => 0), .inr (2, [.ref 5, .ref 8, .ref 9, .int 0]), .inr (0, [.ref 6, .ref 7]), .inl (0, 72, f0X), .inl (0, 24, fun _ => 0), .inl (0, 729, fun _ => 0), .inl (0, 5, fun _ => 0), .inr (1, [.ref 11, .int 0]), .inl (0, 80, fun _ => 0), .inl (0, 432, fun _ => 0), .inl (0, 144, fun _ => 0), .inl (1, 2, fun _ => 0)]) (N := 2) (pc := 57) B M dX3_init_57 (by decide +kernel) (by decide +kernel) (Nat.le_of_ble_eq_true rfl) (Nat.le_of_ble_eq_true rfl) (Nat.le_of_ble_eq_true rfl) (Nat.le_of_ble_eq_true rfl) rfl rfl rfl rfl (fun cx9 t9 B M => ?_)
  have T9 := T8.tr t9 (Nat.le_of_ble_eq_true rfl)
  refine x_putQ (w1 := [.inr (3, [.ref 1, .ref 4, .ref 10, .ref 12, .ref 13, .ref 14, .int 0]), .inr (0, [.ref 2, .ref 3]), .inl (0, 72, f0X), .inl (0, 24, fun _ => 0), .inr (2, [.ref 5, .ref 8, .ref 9, .int 0]), .inr (0, [.ref 6, .ref 7]), .inl (0, 72, f0X), .inl (0, 24, fun _ => 0), .inl (0, 729, fun _ => 0), .inl (0, 5, fun _ => 0), .inr (1, [.ref 11, .int 0]), .inl (0, 80, fun _ => 0), .inl (0, 432, fun _ => 0), .inl (0, 144, fun _ => 0), .inl (1, 2, fun _ => 0)]) (ci := 3) (fs := [.ref 1, .ref 4, .ref 10, .ref 12, .ref 13, .null, .int 0]) (ft := tyX3 5) (k0 := 5) (pc := 59) B dX3_init_59 rfl xi_3 (by decide) ⟨rfl, rfl, rfl⟩ xt_122 tyX3_ok nmX3 rfl rfl hI.p.p.p.p.p.p.p.p.p (by decide +kernel) (fun _ => rfl) (fun _ => rfl) rfl (by decide) rfl ?_
  refine x_aload_n (pc := 62) B 0 dX3_init_62 rfl rfl ?_
  refine x_iconst (v := 0) (pc := 63) B dX3_init_63 (by decide +kernel) ?_
  refine x_putI (w1 := [.inr (3, [.ref 1, .ref 4, .ref 10, .ref 12, .ref 13, .ref 14, .int 0]), .inr (0, [.ref 2, .ref 3]), .inl (0, 72, f0X), .inl (0, 24, fun _ => 0), .inr (2, [.ref 5, .ref 8, .ref 9, .int 0]), .inr (0, [.ref 6, .ref 7]), .inl (0, 72, f0X), .inl (0, 24, fun _ => 0), .inl (0, 729, fun _ => 0), .inl (0, 5, fun _ => 0), .inr (1, [.ref 11, .int 0]), .inl (0, 80, fun _ => 0), .inl (0, 432, fun _ => 0), .inl (0, 144, fun _ => 0), .inl (1, 2, fun _ => 0)]) (ci := 3) (k0 := 6) (pc := 64) B dX3_init_64 rfl xi_3 (by decide) ⟨rfl, rfl, rfl⟩ xt_123 tyX3_ok nmX3 rfl xpdI rfl ?_
  exact x_nret (pc := 67) B M (hR.p.p.p.p.p.p.p.p.p) T9 dX3_init_67 rfl
