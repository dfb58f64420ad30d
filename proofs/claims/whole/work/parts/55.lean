/-! THE CONSTRUCTOR of the reference -/
def gAX : Nat → Int32 := fun k => if k < 3 then 1 else 0
def gCX (j : Nat) : Nat → Int32 := fun k => if k < 3 then 1 else if 57 ≤ k ∧ k < 57 + j then 1 else 0
def gBX : Nat → Int32 := gCX 9
section X4L
variable {K : KX} {cx : CX} {n : Nat}
theorem k4_l1 (B : XB K cx RX4 cX4_init 2 n 1 20) {fs : List Value} : ∀ (d j : Nat) (w : XW), j + d = 3 → w[15]? = some (.inr (4, .ref 16 :: fs)) → w[16]? = some (.inl (0, 72, fun k => if k < j then 1 else 0)) → Wx K cx 2 n 88 [(1, .int (nI 3)), (0, .ref 15)] [] (w.set 16 (.inl (0, 72, gAX))) → Wx K cx 2 n 70 [(1, .int (nI j)), (0, .ref 15)] [] w := by
  intro d
  induction d with
  | zero =>
    intro j w h1 h2 h3 k
    obtain rfl : j = 3 := by omega
    refine x_iload_n (pc := 70) B 0 dX4_init_70 rfl rfl ?_
    refine x_iconst (v := 3) (pc := 71) B dX4_init_71 (by decide +kernel) ?_
    refine x_icmp_ge_t (tgt := 88) (pc := 72) B dX4_init_72 (by decide) (by decide +kernel) ?_
    have e : w.set 16 (.inl (0, 72, gAX)) = w := xset_me h3
    rw [e] at k
    exact k
  | succ d ih =>
    intro j w h1 h2 h3 k
    have hf : xct 72 (upd (fun k => if k < j then (1 : Int32) else 0) j 1) = fun k => if k < j + 1 then 1 else 0 := by
      funext k
      unfold xct upd
      by_cases hk : k < 72
      · rw [if_pos hk]
        by_cases e : k = j
        · rw [if_pos e, if_pos (by omega)]
        · rw [if_neg e]
          show (if k < j then (1 : Int32) else 0) = _
          by_cases e2 : k < j
          · rw [if_pos e2, if_pos (by omega)]
          · rw [if_neg e2, if_neg (by omega)]
      · rw [if_neg hk, if_neg (by omega)]
    have h4 := xset_self (e := .inl (0, 72, fun k => if k < j + 1 then 1 else 0)) h3
    have h5 : (w.set 16 (.inl (0, 72, fun k => if k < j + 1 then (1 : Int32) else 0)))[15]? = some (.inr (4, .ref 16 :: fs)) := by rw [xset_get _ (by decide)]; exact h2
    have hx : xsI w 16 (nI j) 1 = some (w.set 16 (.inl (0, 72, fun k => if k < j + 1 then 1 else 0))) := by rw [xsI_ok h3 (by omega) (by omega), hf]
    refine x_iload_n (pc := 70) B 0 dX4_init_70 rfl rfl ?_
    refine x_iconst (v := 3) (pc := 71) B dX4_init_71 (by decide +kernel) ?_
    refine x_icmp_ge_f (pc := 72) B 88 dX4_init_72 (by decide) (by rw [xl3]; exact nI_ge (by omega) (by omega)) ?_
    refine x_aload_n (pc := 75) B 1 dX4_init_75 rfl rfl ?_
    refine x_getR (x := 16) (ci := 4) (k0 := 0) (pc := 76) B dX4_init_76 rfl xi_4 (by decide) ⟨rfl, rfl, rfl⟩ xt_602 (xgR_ok h2 rfl) ?_
    refine x_iload_n (pc := 79) B 0 dX4_init_79 rfl rfl ?_
    refine x_iconst (v := 1) (pc := 80) B dX4_init_80 (by decide +kernel) ?_
    refine x_iast (pc := 81) B dX4_init_81 hx ?_
    refine x_iinc (L1 := [(1, .int (nI (j + 1))), (0, .ref 15)]) (pc := 82) B 0 dX4_init_82 rfl (by rw [← nI_1]; rfl) (by decide) rfl ?_
    refine x_goto (tgt := 70) (pc := 85) B dX4_init_85 (by decide) ?_
    exact ih (j + 1) _ (by omega) h5 h4 (by rw [List.set_set]; exact k)
theorem k4_l2 (B : XB K cx RX4 cX4_init 2 n 1 20) {fs : List Value} : ∀ (d j : Nat) (w : XW), j + d = 9 → w[15]? = some (.inr (4, .ref 16 :: fs)) → w[16]? = some (.inl (0, 72, gCX j)) → Wx K cx 2 n 112 [(1, .int (nI 9)), (0, .ref 15)] [] (w.set 16 (.inl (0, 72, gBX))) → Wx K cx 2 n 90 [(1, .int (nI j)), (0, .ref 15)] [] w := by
  intro d
  induction d with
  | zero =>
    intro j w h1 h2 h3 k
    obtain rfl : j = 9 := by omega
    refine x_iload_n (pc := 90) B 0 dX4_init_90 rfl rfl ?_
    refine x_bipush (v := 9) (pc := 91) B dX4_init_91 (by decide +kernel) ?_
    refine x_icmp_ge_t (tgt := 112) (pc := 93) B dX4_init_93 (by decide) (by decide +kernel) ?_
    have e : w.set 16 (.inl (0, 72, gBX)) = w := xset_me h3
    rw [e] at k
    exact k
  | succ d ih =>
    intro j w h1 h2 h3 k
    have hf : xct 72 (upd (gCX j) (57 + j) 1) = gCX (j + 1) := by
      funext k
      unfold xct upd gCX
      by_cases hk : k < 72
      · rw [if_pos hk]
        by_cases e0 : k < 3
        · rw [if_neg (by omega), if_pos e0, if_pos e0]
        · rw [if_neg e0, if_neg e0]
          by_cases e : k = 57 + j
          · rw [if_pos e, if_pos (by omega)]
          · rw [if_neg e]
            by_cases e2 : 57 ≤ k ∧ k < 57 + j
            · rw [if_pos e2, if_pos (by omega)]
            · rw [if_neg e2, if_neg (by omega)]
      · rw [if_neg hk, if_neg (by omega), if_neg (by omega)]
    have h4 := xset_self (e := .inl (0, 72, gCX (j + 1))) h3
    have h5 : (w.set 16 (.inl (0, 72, gCX (j + 1))))[15]? = some (.inr (4, .ref 16 :: fs)) := by rw [xset_get _ (by decide)]; exact h2
    have hx : xsI w 16 (57 + nI j) 1 = some (w.set 16 (.inl (0, 72, gCX (j + 1)))) := by rw [show (57 : Int32) = nI 57 by decide +kernel, nI_add, xsI_ok h3 (by omega) (by omega), hf]
    refine x_iload_n (pc := 90) B 0 dX4_init_90 rfl rfl ?_
    refine x_bipush (v := 9) (pc := 91) B dX4_init_91 (by decide +kernel) ?_
    refine x_icmp_ge_f (pc := 93) B 112 dX4_init_93 (by decide) (by rw [show (9 : Int32) = nI 9 by decide +kernel]; exact nI_ge (by omega) (by omega)) ?_
    refine x_aload_n (pc := 96) B 1 dX4_init_96 rfl rfl ?_
    refine x_getR (x := 16) (ci := 4) (k0 := 0) (pc := 97) B dX4_init_97 rfl xi_4 (by decide) ⟨rfl, rfl, rfl⟩ xt_602 (xgR_ok h2 rfl) ?_
    refine x_bipush (v := 57) (pc := 100) B dX4_init_100 (by decide +kernel) ?_
    refine x_iload_n (pc := 102) B 0 dX4_init_102 rfl rfl ?_
    refine x_iadd (pc := 103) B dX4_init_103 ?_
    refine x_iconst (v := 1) (pc := 104) B dX4_init_104 (by decide +kernel) ?_
    refine x_iast (pc := 105) B dX4_init_105 hx ?_
    refine x_iinc (L1 := [(1, .int (nI (j + 1))), (0, .ref 15)]) (pc := 106) B 0 dX4_init_106 rfl (by rw [← nI_1]; rfl) (by decide) rfl ?_
    refine x_goto (tgt := 90) (pc := 109) B dX4_init_109 (by decide) ?_
    exact ih (j + 1) _ (by omega) h5 h4 (by rw [List.set_set]; exact k)
end X4L
set_option maxRecDepth 20000 in
theorem kcX4_init_15 (cx : CX) : Cni yX4_init cX4_init 2 1 20 8 824 cx [.ref 15] [.inr (3, [.ref 1, .ref 4, .ref 10, .ref 12, .ref 13, .ref 14, .int 0]), .inr (0, [.ref 2, .ref 3]), .inl (0, 72, f0X), .inl (0, 24, fun _ => 0), .inr (2, [.ref 5, .ref 8, .ref 9, .int 0]), .inr (0, [.ref 6, .ref 7]), .inl (0, 72, f0X), .inl (0, 24, fun _ => 0), .inl (0, 729, fun _ => 0), .inl (0, 5, fun _ => 0), .inr (1, [.ref 11, .int 0]), .inl (0, 80, fun _ => 0), .inl (0, 432, fun _ => 0), .inl (0, 144, fun _ => 0), .inl (1, 2, fun _ => 0), .inr (4, [.null, .null, .int 0, .null, .null, .null, .int 0, .int 0, .null, .int 0, .null, .null])] [.inr (3, [.ref 1, .ref 4, .ref 10, .ref 12, .ref 13, .ref 14, .int 0]), .inr (0, [.ref 2, .ref 3]), .inl (0, 72, f0X), .inl (0, 24, fun _ => 0), .inr (2, [.ref 5, .ref 8, .ref 9, .int 0]), .inr (0, [.ref 6, .ref 7]), .inl (0, 72, f0X), .inl (0, 24, fun _ => 0), .inl (0, 729, fun _ => 0), .inl (0, 5, fun _ => 0), .inr (1, [.ref 11, .int 0]), .inl (0, 80, fun _ => 0), .inl (0, 432, fun _ => 0), .inl (0, 144, fun _ => 0), .inl (1, 2, fun _ => 0), .inr (4, [.ref 16, .ref 17, .int 0, .ref 18, .ref 19, .ref 20, .int 0, .int 0, .ref 21, .int 0, .ref 22, .ref 23]), .inl (0, 72, gBX), .inl (0, 432, fun _ => 0), .inl (0, 144, fun _ => 0), .inl (1, 2, fun _ => 0), .inl (0, 80, fun _ => 0), .inl (0, 85, fun _ => 0), .inl (0, 6, fun _ => 0), .inl (0, 3, fun _ => 0)] := by
  refine Cni_of (by decide +kernel) rfl (Nat.le_of_ble_eq_true rfl) (fun K B M hI hR => ?_)
  show Wx K cx 2 16 0 [(0, .ref 15)] [] _
  have B : XB K cx RX4 cX4_init 2 16 1 20 := B
  refine x_aload_n (pc := 0) B 0 dX4_init_0 rfl rfl ?_
  refine x_oinit (pc := 1) B dX4_init_1 xt_601 (Nat.le_of_ble_eq_true rfl) (Nat.le_of_ble_eq_true rfl) (Nat.le_of_ble_eq_true rfl) ?_
  refine x_aload_n (pc := 4) B 0 dX4_init_4 rfl rfl ?_
  refine x_bipush (v := 72) (pc := 5) B dX4_init_5 (by decide +kernel) ?_
  refine x_newI (w1 := [.inr (3, [.ref 1, .ref 4, .ref 10, .ref 12, .ref 13, .ref 14, .int 0]), .inr (0, [.ref 2, .ref 3]), .inl (0, 72, f0X), .inl (0, 24, fun _ => 0), .inr (2, [.ref 5, .ref 8, .ref 9, .int 0]), .inr (0, [.ref 6, .ref 7]), .inl (0, 72, f0X), .inl (0, 24, fun _ => 0), .inl (0, 729, fun _ => 0), .inl (0, 5, fun _ => 0), .inr (1, [.ref 11, .int 0]), .inl (0, 80, fun _ => 0), .inl (0, 432, fun _ => 0), .inl (0, 144, fun _ => 0), .inl (1, 2, fun _ => 0), .inr (4, [.null, .null, .int 0, .null, .null, .null, .int 0, .int 0, .null, .int 0, .null, .null]), .inl (0, 72, fun _ => 0)]) (N := 72) (pc := 7) B M dX4_init_7 (by decide +kernel) (by decide +kernel) (Nat.le_of_ble_eq_true rfl) (Nat.le_of_ble_eq_true rfl) (Nat.le_of_ble_eq_true rfl) (Nat.le_of_ble_eq_true rfl) rfl rfl rfl rfl (fun cx1 t1 B M => ?_)
  have T1 := t1
  refine x_putQ (w1 := [.inr (3, [.ref 1, .ref 4, .ref 10, .ref 12, .ref 13, .ref 14, .int 0]), .inr (0, [.ref 2, .ref 3]), .inl (0, 72, f0X), .inl (0, 24, fun _ => 0), .inr (2, [.ref 5, .ref 8, .ref 9, .int 0]), .inr (0, [.ref 6, .ref 7]), .inl (0, 72, f0X), .inl (0, 24, fun _ => 0), .inl (0, 729, fun _ => 0), .inl (0, 5, fun _ => 0), .inr (1, [.ref 11, .int 0]), .inl (0, 80, fun _ => 0), .inl (0, 432, fun _ => 0), .inl (0, 144, fun _ => 0), .inl (1, 2, fun _ => 0), .inr (4, [.ref 16, .null, .int 0, .null, .null, .null, .int 0, .int 0, .null, .int 0, .null, .null]), .inl (0, 72, fun _ => 0)]) (ci := 4) (fs := [.null, .null, .int 0, .null, .null, .null, .int 0, .int 0, .null, .int 0, .null, .null]) (ft := tyX4 0) (k0 := 0) (pc := 9) B dX4_init_9 rfl xi_4 (by decide) ⟨rfl, rfl, rfl⟩ xt_602 tyX4_ok nmX4 rfl rfl hI.p (by decide +kernel) (fun _ => rfl) (fun _ => rfl) rfl (by decide) rfl ?_
  refine x_aload_n (pc := 12) B 0 dX4_init_12 rfl rfl ?_
  refine x_sipush (v := 432) (pc := 13) B dX4_init_13 (by decide +kernel) ?_
  refine x_newI (w1 := [.inr (3, [.ref 1, .ref 4, .ref 10, .ref 12, .ref 13, .ref 14, .int 0]), .inr (0, [.ref 2, .ref 3]), .inl (0, 72, f0X), .inl (0, 24, fun _ => 0), .inr (2, [.ref 5, .ref 8, .ref 9, .int 0]), .inr (0, [.ref 6, .ref 7]), .inl (0, 72, f0X), .inl (0, 24, fun _ => 0), .inl (0, 729, fun _ => 0), .inl (0, 5, fun _ => 0), .inr (1, [.ref 11, .int 0]), .inl (0, 80, fun _ => 0), .inl (0, 432, fun _ => 0), .inl (0, 144, fun _ => 0), .inl (1, 2, fun _ => 0), .inr (4, [.ref 16, .null, .int 0, .null, .null, .null, .int 0, .int 0, .null, .int 0, .null, .null]), .inl (0, 72, fun _ => 0), .inl (0, 432, fun _ => 0)]) (N := 432) (pc := 16) B M dX4_init_16 (by decide +kernel) (by decide +kernel) (Nat.le_of_ble_eq_true rfl) (Nat.le_of_ble_eq_true rfl) (Nat.le_of_ble_eq_true rfl) (Nat.le_of_ble_eq_true rfl) rfl rfl rfl rfl (fun cx2 t2 B M => ?_)
  have T2 := T1.tr t2 (Nat.le_of_ble_eq_true rfl)
  refine x_putQ (w1 := [.inr (3, [.ref 1, .ref 4, .ref 10, .ref 12, .ref 13, .ref 14, .int 0]), .inr (0, [.ref 2, .ref 3]), .inl (0, 72, f0X), .inl (0, 24, fun _ => 0), .inr (2, [.ref 5, .ref 8, .ref 9, .int 0]), .inr (0, [.ref 6, .ref 7]), .inl (0, 72, f0X), .inl (0, 24, fun _ => 0), .inl (0, 729, fun _ => 0), .inl (0, 5, fun _ => 0), .inr (1, [.ref 11, .int 0]), .inl (0, 80, fun _ => 0), .inl (0, 432, fun _ => 0), .inl (0, 144, fun _ => 0), .inl (1, 2, fun _ => 0), .inr (4, [.ref 16, .ref 17, .int 0, .null, .null, .null, .int 0, .int 0, .null, .int 0, .null, .null]), .inl (0, 72, fun _ => 0), .inl (0, 432, fun _ => 0)]) (ci := 4) (fs := [.ref 16, .null, .int 0, .null, .null, .null, .int 0, .int 0, .null, .int 0, .null, .null]) (ft := tyX4 1) (k0 := 1) (pc := 18) B dX4_init_18 rfl xi_4 (by decide) ⟨rfl, rfl, rfl⟩ xt_603 tyX4_ok nmX4 rfl rfl hI.p.p (by decide +kernel) (fun _ => rfl) (fun _ => rfl) rfl (by decide) rfl ?_
  refine x_aload_n (pc := 21) B 0 dX4_init_21 rfl rfl ?_
  refine x_sipush (v := 144) (pc := 22) B dX4_init_22 (by decide +kernel) ?_
  refine x_newI (w1 := [.inr (3, [.ref 1, .ref 4, .ref 10, .ref 12, .ref 13, .ref 14, .int 0]), .inr (0, [.ref 2, .ref 3]), .inl (0, 72, f0X), .inl (0, 24, fun _ => 0), .inr (2, [.ref 5, .ref 8, .ref 9, .int 0]), .inr (0, [.ref 6, .ref 7]), .inl (0, 72, f0X), .inl (0, 24, fun _ => 0), .inl (0, 729, fun _ => 0), .inl (0, 5, fun _ => 0), .inr (1, [.ref 11, .int 0]), .inl (0, 80, fun _ => 0), .inl (0, 432, fun _ => 0), .inl (0, 144, fun _ => 0), .inl (1, 2, fun _ => 0), .inr (4, [.ref 16, .ref 17, .int 0, .null, .null, .null, .int 0, .int 0, .null, .int 0, .null, .null]), .inl (0, 72, fun _ => 0), .inl (0, 432, fun _ => 0), .inl (0, 144, fun _ => 0)]) (N := 144) (pc := 25) B M dX4_init_25 (by decide +kernel) (by decide +kernel) (Nat.le_of_ble_eq_true rfl) (Nat.le_of_ble_eq_true rfl) (Nat.le_of_ble_eq_true rfl) (Nat.le_of_ble_eq_true rfl) rfl rfl rfl rfl (fun cx3 t3 B M => ?_)
  have T3 := T2.tr t3 (Nat.le_of_ble_eq_true rfl)
  refine x_putQ (w1 := [.inr (3, [.ref 1, .ref 4, .ref 10, .ref 12, .ref 13, .ref 14, .int 0]), .inr (0, [.ref 2, .ref 3]), .inl (0, 72, f0X), .inl (0, 24, fun _ => 0), .inr (2, [.ref 5, .ref 8, .ref 9, .int 0]), .inr (0, [.ref 6, .ref 7]), .inl (0, 72, f0X), .inl (0, 24, fun _ => 0), .inl (0, 729, fun _ => 0), .inl (0, 5, fun _ => 0), .inr (1, [.ref 11, .int 0]), .inl (0, 80, fun _ => 0), .inl (0, 432, fun _ => 0), .inl (0, 144, fun _ => 0), .inl (1, 2, fun _ => 0), .inr (4, [.ref 16, .ref 17, .int 0, .ref 18, .null, .null, .int 0, .int 0, .null, .int 0, .null, .null]), .inl (0, 72, fun _ => 0), .inl (0, 432, fun _ => 0), .inl (0, 144, fun _ => 0)]) (ci := 4) (fs := [.ref 16, .ref 17, .int 0, .null, .null, .null, .int 0, .int 0, .null, .int 0, .null, .null]) (ft := tyX4 3) (k0 := 3) (pc := 27) B dX4_init_27 rfl xi_4 (by decide) ⟨rfl, rfl, rfl⟩ xt_605 tyX4_ok nmX4 rfl rfl hI.p.p.p (by decide +kernel) (fun _ => rfl) (fun _ => rfl) rfl (by decide) rfl ?_
  refine x_aload_n (pc := 30) B 0 dX4_init_30 rfl rfl ?_
  refine x_iconst (v := 2) (pc := 31) B dX4_init_31 (by decide +kernel) ?_
  refine x_newZ (w1 := [.inr (3, [.ref 1, .ref 4, .ref 10, .ref 12, .ref 13, .ref 14, .int 0]), .inr (0, [.ref 2, .ref 3]), .inl (0, 72, f0X), .inl (0, 24, fun _ => 0), .inr (2, [.ref 5, .ref 8, .ref 9, .int 0]), .inr (0, [.ref 6, .ref 7]), .inl (0, 72, f0X), .inl (0, 24, fun _ => 0), .inl (0, 729, fun _ => 0), .inl (0, 5, fun _ => 0), .inr (1, [.ref 11, .int 0]), .inl (0, 80, fun _ => 0), .inl (0, 432, fun _ => 0), .inl (0, 144, fun _ => 0), .inl (1, 2, fun _ => 0), .inr (4, [.ref 16, .ref 17, .int 0, .ref 18, .null, .null, .int 0, .int 0, .null, .int 0, .null, .null]), .inl (0, 72, fun _ => 0), .inl (0, 432, fun _ => 0), .inl (0, 144, fun _ => 0), .inl (1, 2, fun _ => 0)]) (N := 2) (pc := 32) B M dX4_init_32 (by decide +kernel) (by decide +kernel) (Nat.le_of_ble_eq_true rfl) (Nat.le_of_ble_eq_true rfl) (Nat.le_of_ble_eq_true rfl) (Nat.le_of_ble_eq_true rfl) rfl rfl rfl rfl (fun cx4 t4 B M => ?_)
  have T4 := T3.tr t4 (Nat.le_of_ble_eq_true rfl)
  refine x_putQ (w1 := [.inr (3, [.ref 1, .ref 4, .ref 10, .ref 12, .ref 13, .ref 14, .int 0]), .inr (0, [.ref 2, .ref 3]), .inl (0, 72, f0X), .inl (0, 24, fun _ => 0), .inr (2, [.ref 5, .ref 8, .ref 9, .int 0]), .inr (0, [.ref 6, .ref 7]), .inl (0, 72, f0X), .inl (0, 24, fun _ => 0), .inl (0, 729, fun _ => 0), .inl (0, 5, fun _ => 0), .inr (1, [.ref 11, .int 0]), .inl (0, 80, fun _ => 0), .inl (0, 432, fun _ => 0), .inl (0, 144, fun _ => 0), .inl (1, 2, fun _ => 0), .inr (4, [.ref 16, .ref 17, .int 0, .ref 18, .ref 19, .null, .int 0, .int 0, .null, .int 0, .null, .null]), .inl (0, 72, fun _ => 0), .inl (0, 432, fun _ => 0), .inl (0, 144, fun _ => 0), .inl (1, 2, fun _ => 0)]) (ci := 4) (fs := [.ref 16, .ref 17, .int 0, .ref 18, .null, .null, .int 0, .int 0, .null, .int 0, .null, .null]) (ft := tyX4 4) (k0 := 4) (pc := 34) B dX4_init_34 rfl xi_4 (by decide) ⟨rfl, rfl, rfl⟩ xt_606 tyX4_ok nmX4 rfl rfl hI.p.p.p.p (by decide +kernel) (fun _ => rfl) (fun _ => rfl) rfl (by decide) rfl ?_
  refine x_aload_n (pc := 37) B 0 dX4_init_37 rfl rfl ?_
  refine x_bipush (v := 80) (pc := 38) B dX4_init_38 (by decide +kernel) ?_
  refine x_newI (w1 := [.inr (3, [.ref 1, .ref 4, .ref 10, .ref 12, .ref 13, .ref 14, .int 0]), .inr (0, [.ref 2, .ref 3]), .inl (0, 72, f0X), .inl (0, 24, fun _ => 0), .inr (2, [.ref 5, .ref 8, .ref 9, .int 0]), .inr (0, [.ref 6, .ref 7]), .inl (0, 72, f0X), .inl (0, 24, fun _ => 0), .inl (0, 729, fun _ => 0), .inl (0, 5, fun _ => 0), .inr (1, [.ref 11, .int 0]), .inl (0, 80, fun _ => 0), .inl (0, 432, fun _ => 0), .inl (0, 144, fun _ => 0), .inl (1, 2, fun _ => 0), .inr (4, [.ref 16, .ref 17, .int 0, .ref 18, .ref 19, .null, .int 0, .int 0, .null, .int 0, .null, .null]), .inl (0, 72, fun _ => 0), .inl (0, 432, fun _ => 0), .inl (0, 144, fun _ => 0), .inl (1, 2, fun _ => 0), .inl (0, 80, fun _ => 0)]) (N := 80) (pc := 40) B M dX4_init_40 (by decide +kernel) (by decide +kernel) (Nat.le_of_ble_eq_true rfl) (Nat.le_of_ble_eq_true rfl) (Nat.le_of_ble_eq_true rfl) (Nat.le_of_ble_eq_true rfl) rfl rfl rfl rfl (fun cx5 t5 B M => ?_)
  have T5 := T4.tr t5 (Nat.le_of_ble_eq_true rfl)
  refine x_putQ (w1 := [.inr (3, [.ref 1, .ref 4, .ref 10, .ref 12, .ref 13, .ref 14, .int 0]), .inr (0, [.ref 2, .ref 3]), .inl (0, 72, f0X), .inl (0, 24, fun _ => 0), .inr (2, [.ref 5, .ref 8, .ref 9, .int 0]), .inr (0, [.ref 6, .ref 7]), .inl (0, 72, f0X), .inl (0, 24, fun _ => 0), .inl (0, 729, fun _ => 0), .inl (0, 5, fun _ => 0), .inr (1, [.ref 11, .int 0]), .inl (0, 80, fun _ => 0), .inl (0, 432, fun _ => 0), .inl (0, 144, fun _ => 0), .inl (1, 2, fun _ => 0), .inr (4, [.ref 16, .ref 17, .int 0, .ref 18, .ref 19, .ref 20, .int 0, .int 0, .null, .int 0, .null, .null]), .inl (0, 72, fun _ => 0), .inl (0, 432, fun _ => 0), .inl (0, 144, fun _ => 0), .inl (1, 2, fun _ => 0), .inl (0, 80, fun _ => 0)]) (ci := 4) (fs := [.ref 16, .ref 17, .int 0, .ref 18, .ref 19, .null, .int 0, .int 0, .null, .int 0, .null, .null]) (ft := tyX4 5) (k0 := 5) (pc := 42) B dX4_init_42 rfl xi_4 (by decide) ⟨rfl, rfl, rfl⟩ xt_607 tyX4_ok nmX4 rfl rfl hI.p.p.p.p.p (by decide +kernel) (fun _ => rfl) (fun _ => rfl) rfl (by decide) rfl ?_
  refine x_aload_n (pc := 45) B 0 dX4_init_45 rfl rfl ?_
  refine x_bipush (v := 85) (pc := 46) B dX4_init_46 (by decide +kernel) ?_
  refine x_newI (w1 := [.inr (3, [.ref 1, .ref 4, .ref 10, .ref 12, .ref 13, .ref 14, .int 0]), .inr (0, [.ref 2, .ref 3]), .inl (0, 72, f0X), .inl (0, 24, fun _ => 0), .inr (2, [.ref 5, .ref 8, .ref 9, .int 0]), .inr (0, [.ref 6, .ref 7]), .inl (0, 72, f0X), .inl (0, 24, fun _ => 0), .inl (0, 729, fun _ => 0), .inl (0, 5, fun _ => 0), .inr (1, [.ref 11, .int 0]), .inl (0, 80, fun _ => 0), .inl (0, 432, fun _ => 0), .inl (0, 144, fun _ => 0), .inl (1, 2, fun _ => 0), .inr (4, [.ref 16, .ref 17, .int 0, .ref 18, .ref 19, .ref 20, .int 0, .int 0, .null, .int 0, .null, .null]), .inl (0, 72, fun _ => 0), .inl (0, 432, fun _ => 0), .inl (0, 144, fun _ => 0), .inl (1, 2, fun _ => 0), .inl (0, 80, fun _ => 0), .inl (0, 85, fun _ => 0)]) (N := 85) (pc := 48) B M dX4_init_48 (by decide +kernel) (by decide +kernel) (Nat.le_of_ble_eq_true rfl) (Nat.le_of_ble_eq_true rfl) (Nat.le_of_ble_eq_true rfl) (Nat.le_of_ble_eq_true rfl) rfl rfl rfl rfl (fun cx6 t6 B M => ?_)
  have T6 := T5.tr t6 (Nat.le_of_ble_eq_true rfl)
  refine x_putQ (w1 := [.inr (3, [.ref 1, .ref 4, .ref 10, .ref 12, .ref 13, .ref 14, .int 0]), .inr (0, [.ref 2, .ref 3]), .inl (0, 72, f0X), .inl (0, 24, fun _ => 0), .inr (2, [.ref 5, .ref 8, .ref 9, .int 0]), .inr (0, [.ref 6, .ref 7]), .inl (0, 72, f0X), .inl (0, 24, fun _ => 0), .inl (0, 729, fun _ => 0), .inl (0, 5, fun _ => 0), .inr (1, [.ref 11, .int 0]), .inl (0, 80, fun _ => 0), .inl (0, 432, fun _ => 0), .inl (0, 144, fun _ => 0), .inl (1, 2, fun _ => 0), .inr (4, [.ref 16, .ref 17, .int 0, .ref 18, .ref 19, .ref 20, .int 0, .int 0, .ref 21, .int 0, .null, .null]), .inl (0, 72, fun _ => 0), .inl (0, 432, fun _ => 0), .inl (0, 144, fun _ => 0), .inl (1, 2, fun _ => 0), .inl (0, 80, fun _ => 0), .inl (0, 85, fun _ => 0)]) (ci := 4) (fs := [.ref 16, .ref 17, .int 0, .ref 18, .ref 19, .ref 20, .int 0, .int 0, .null, .int 0, .null, .null]) (ft := tyX4 8) (k0 := 8) (pc := 50) B dX4_init_50 rfl xi_4 (by decide) ⟨rfl, rfl, rfl⟩ xt_610 tyX4_ok nmX4 rfl rfl hI.p.p.p.p.p.p (by decide +kernel) (fun _ => rfl) (fun _ => rfl) rfl (by decide) rfl ?_
  refine x_aload_n (pc := 53) B 0 dX4_init_53 rfl rfl ?_
  refine x_bipush (v := 6) (pc := 54) B dX4_init_54 (by decide +kernel) ?_
  refine x_newI (w1 := [.inr (3, [.ref 1, .ref 4, .ref 10, .ref 12, .ref 13, .ref 14, .int 0]), .inr (0, [.ref 2, .ref 3]), .inl (0, 72, f0X), .inl (0, 24, fun _ => 0), .inr (2, [.ref 5, .ref 8, .ref 9, .int 0]), .inr (0, [.ref 6, .ref 7]), .inl (0, 72, f0X), .inl (0, 24, fun _ => 0), .inl (0, 729, fun _ => 0), .inl (0, 5, fun _ => 0), .inr (1, [.ref 11, .int 0]), .inl (0, 80, fun _ => 0), .inl (0, 432, fun _ => 0), .inl (0, 144, fun _ => 0), .inl (1, 2, fun _ => 0), .inr (4, [.ref 16, .ref 17, .int 0, .ref 18, .ref 19, .ref 20, .int 0, .int 0, .ref 21, .int 0, .null, .null]), .inl (0, 72, fun _ => 0), .inl (0, 432, fun _ => 0), .inl (0, 144, fun _ => 0), .inl (1, 2, fun _ => 0), .inl (0, 80, fun _ => 0), .inl (0, 85, fun _ => 0), .inl (0, 6, fun _ => 0)]) (N := 6) (pc := 56) B M dX4_init_56 (by decide +kernel) (by decide +kernel) (Nat.le_of_ble_eq_true rfl) (Nat.le_of_ble_eq_true rfl) (Nat.le_of_ble_eq_true rfl) (Nat.le_of_ble_eq_true rfl) rfl rfl rfl rfl (fun cx7 t7 B M => ?_)
  have T7 := T6.tr t7 (Nat.le_of_ble_eq_true rfl)
  refine x_putQ (w1 := [.inr (3, [.ref 1, .ref 4, .ref 10, .ref 12, .ref 13, .ref 14, .int 0]), .inr (0, [.ref 2, .ref 3]), .inl (0, 72, f0X), .inl (0, 24, fun _ => 0), .inr (2, [.ref 5, .ref 8, .ref 9, .int 0]), .inr (0, [.ref 6, .ref 7]), .inl (0, 72, f0X), .inl (0, 24, fun _ => 0), .inl (0, 729, fun _ => 0), .inl (0, 5, fun _ => 0), .inr (1, [.ref 11, .int 0]), .inl (0, 80, fun _ => 0), .inl (0, 432, fun _ => 0), .inl (0, 144, fun _ => 0), .inl (1, 2, fun _ => 0), .inr (4, [.ref 16, .ref 17, .int 0, .ref 18, .ref 19, .ref 20, .int 0, .int 0, .ref 21, .int 0, .ref 22, .null]), .inl (0, 72, fun _ => 0), .inl (0, 432, fun _ => 0), .inl (0, 144, fun _ => 0), .inl (1, 2, fun _ => 0), .inl (0, 80, fun _ => 0), .inl (0, 85, fun _ => 0), .inl (0, 6, fun _ => 0)]) (ci := 4) (fs := [.ref 16, .ref 17, .int 0, .ref 18, .ref 19, .ref 20, .int 0, .int 0, .ref 21, .int 0, .null, .null]) (ft := tyX4 10) (k0 := 10) (pc := 58) B dX4_init_58 rfl xi_4 (by decide) ⟨rfl, rfl, rfl⟩ xt_612 tyX4_ok nmX4 rfl rfl hI.p.p.p.p.p.p.p (by decide +kernel) (fun _ => rfl) (fun _ => rfl) rfl (by decide) rfl ?_
  refine x_aload_n (pc := 61) B 0 dX4_init_61 rfl rfl ?_
  refine x_iconst (v := 3) (pc := 62) B dX4_init_62 (by decide +kernel) ?_
  refine x_newI (w1 := [.inr (3, [.ref 1, .ref 4, .ref 10, .ref 12, .ref 13, .ref 14, .int 0]), .inr (0, [.ref 2, .ref 3]), .inl (0, 72, f0X), .inl (0, 24, fun _ => 0), .inr (2, [.ref 5, .ref 8, .ref 9, .int 0]), .inr (0, [.ref 6, .ref 7]), .inl (0, 72, f0X), .inl (0, 24, fun _ => 0), .inl (0, 729, fun _ => 0), .inl (0, 5, fun _ => 0), .inr (1, [.ref 11, .int 0]), .inl (0, 80, fun _ => 0), .inl (0, 432, fun _ => 0), .inl (0, 144, fun _ => 0), .inl (1, 2, fun _ => 0), .inr (4, [.ref 16, .ref 17, .int 0, .ref 18, .ref 19, .ref 20, .int 0, .int 0, .ref 21, .int 0, .ref 22, .null]), .inl (0, 72, fun _ => 0), .inl (0, 432, fun _ => 0), .inl (0, 144, fun _ => 0), .inl (1, 2, fun _ => 0), .inl (0, 80, fun _ => 0), .inl (0, 85, fun _ => 0), .inl (0, 6, fun _ => 0), .inl (0, 3, fun _ => 0)]) (N := 3) (pc := 63) B M dX4_init_63 (by decide +kernel) (by decide +kernel) (Nat.le_of_ble_eq_true rfl) (Nat.le_of_ble_eq_true rfl) (Nat.le_of_ble_eq_true rfl) (Nat.le_of_ble_eq_true rfl) rfl rfl rfl rfl (fun cx8 t8 B M => ?_)
  have T8 := T7.tr t8 (Nat.le_of_ble_eq_true rfl)
  refine x_putQ (w1 := [.inr (3, [.ref 1, .ref 4, .ref 10, .ref 12, .ref 13, .ref 14, .int 0]), .inr (0, [.ref 2, .ref 3]), .inl (0, 72, f0X), .inl (0, 24, fun _ => 0), .inr (2, [.ref 5, .ref 8, .ref 9, .int 0]), .inr (0, [.ref 6, .ref 7]), .inl (0, 72, f0X), .inl (0, 24, fun _ => 0), .inl (0, 729, fun _ => 0), .inl (0, 5, fun _ => 0), .inr (1, [.ref 11, .int 0]), .inl (0, 80, fun _ => 0), .inl (0, 432, fun _ => 0), .inl (0, 144, fun _ => 0), .inl (1, 2, fun _ => 0), .inr (4, [.ref 16, .ref 17, .int 0, .ref 18, .ref 19, .ref 20, .int 0, .int 0, .ref 21, .int 0, .ref 22, .ref 23]), .inl (0, 72, fun _ => 0), .inl (0, 432, fun _ => 0), .inl (0, 144, fun _ => 0), .inl (1, 2, fun _ => 0), .inl (0, 80, fun _ => 0), .inl (0, 85, fun _ => 0), .inl (0, 6, fun _ => 0), .inl (0, 3, fun _ => 0)]) (ci := 4) (fs := [.ref 16, .ref 17, .int 0, .ref 18, .ref 19, .ref 20, .int 0, .int 0, .ref 21, .int 0, .ref 22, .null]) (ft := tyX4 11) (k0 := 11) (pc := 65) B dX4_init_65 rfl xi_4 (by decide) ⟨rfl, rfl, rfl⟩ xt_613 tyX4_ok nmX4 rfl rfl hI.p.p.p.p.p.p.p.p (by decide +kernel) (fun _ => rfl) (fun _ => rfl) rfl (by decide) rfl ?_
  refine x_iconst (v := 0) (pc := 68) B dX4_init_68 (by decide +kernel) ?_
  refine x_istore_n (L1 := [(1, .int (nI 0)), (0, .ref 15)]) (pc := 69) B dX4_init_69 rfl (by decide) (by rw [← xl0]; rfl) ?_
  have h0 : (fun _ => 0 : Nat → Int32) = fun k => if k < 0 then 1 else 0 := rfl
  refine k4_l1 B (fs := [.ref 17, .int 0, .ref 18, .ref 19, .ref 20, .int 0, .int 0, .ref 21, .int 0, .ref 22, .ref 23]) 3 0 _ (by omega) rfl (by rw [← h0]; rfl) ?_
  refine x_iconst (v := 0) (pc := 88) B dX4_init_88 (by decide +kernel) ?_
  refine x_istore_n (L1 := [(1, .int (nI 0)), (0, .ref 15)]) (pc := 89) B dX4_init_89 rfl (by decide) (by rw [← xl0]; rfl) ?_
  have h1 : gAX = gCX 0 := by
    funext k
    unfold gAX gCX
    by_cases e : k < 3
    · rw [if_pos e, if_pos e]
    · rw [if_neg e, if_neg e, if_neg (by omega)]
  refine k4_l2 B (fs := [.ref 17, .int 0, .ref 18, .ref 19, .ref 20, .int 0, .int 0, .ref 21, .int 0, .ref 22, .ref 23]) 9 0 _ (by omega) rfl (by rw [← h1]; rfl) ?_
  exact x_nret (pc := 112) B M (hR.p.p.p.p.p.p.p.p) T8 dX4_init_112 rfl
