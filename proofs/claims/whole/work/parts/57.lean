/-! THE LAW FROM ITS ENTRY -/
def XL (K : KX) : Prop := match K with
  | (_, _, _, R, s, _, args, below, meth, c, Q, A, _, _) => c.code = code ∧ R = room_1 ∧ (∃ b : Nat, args = #[Value.ref b]) ∧ meth.sig.returnType = ret ∧ meth.locks = false ∧ Q = lw_Z below args s ∧ (∀ q, A q → s.heap.size ≤ q)
theorem XL.p {K : KX} {a b : Nat} (h : XL K) : XL (Kp K a b) := by
  obtain ⟨p, l, e, R, s, m, args, below, meth, c, Q, A, cells, slots⟩ := K
  exact h
theorem XL.r {K : KX} {mc ms : Nat} (h : XL K) (M : XM K mc ms 24 2437) : XRL K := by
  obtain ⟨p, l, e, R, s, m, args, below, meth, c, Q, A, cells, slots⟩ := K
  obtain ⟨h1, h2, h3, h4, h5, h6, h7⟩ := h
  obtain ⟨m1, m2, m3, m4⟩ := M
  exact ⟨h1, h2, h3, h4, h5, m1, m2, h6, h7⟩
theorem XS.p {K : KX} {cx : CX} {n0 a b : Nat} {xs : Nat → Int32} (h : XS K cx n0 xs) : XS (Kp K a b) cx n0 xs := by
  obtain ⟨p, l, e, R, s, m, args, below, meth, c, Q, A, cells, slots⟩ := K
  exact h
theorem XS.t {K : KX} {cx cx1 : CX} {n n0 : Nat} {xs : Nat → Int32} (h : XS K cx n0 xs) (t : Xt cx n cx1) : XS K cx1 n0 xs := by
  obtain ⟨p, l, e, R, s, m, args, below, meth, c, Q, A, cells, slots⟩ := K
  obtain ⟨ad, rfl, -⟩ := t
  exact h
set_option maxRecDepth 20000 in
theorem law_go {K : KX} {cx : CX} {n0 : Nat} {xs : Nat → Int32} (B : XB K cx RL cL_law 4 0 9 213) (M : XM K 24 2437 0 0) (hX : XS K cx n0 xs) (hL : XL K) (hn : n0 ≤ 3072) : Wx K cx 4 0 0 [(0, .ref 4000)] [] [] := by
  refine x_new (w1 := [.inr (3, [.null, .null, .null, .null, .null, .null, .int 0])]) (ci := 3) (N := 7) (ty := tyX3) (fs := [.null, .null, .null, .null, .null, .null, .int 0]) (pc := 0) B M dL_law_0 rfl xi_3 tyX3_ok xt_66 xu_3 xt_53 (fun j hj => by rcases (show j = 0 ∨ j = 1 ∨ j = 2 ∨ j = 3 ∨ j = 4 ∨ j = 5 ∨ j = 6 by omega) with rfl | rfl | rfl | rfl | rfl | rfl | rfl <;> rfl) rfl rfl (Nat.le_of_ble_eq_true rfl) (Nat.le_of_ble_eq_true rfl) (Nat.le_of_ble_eq_true rfl) rfl rfl rfl rfl (fun cx1 t1 B M => ?_)
  have T1 := t1
  refine x_dup (pc := 3) B dL_law_3 rfl ?_
  refine x_callI (w1 := [.inr (3, [.ref 1, .ref 4, .ref 10, .ref 12, .ref 13, .ref 14, .int 0]), .inr (0, [.ref 2, .ref 3]), .inl (0, 72, f0X), .inl (0, 24, fun _ => 0), .inr (2, [.ref 5, .ref 8, .ref 9, .int 0]), .inr (0, [.ref 6, .ref 7]), .inl (0, 72, f0X), .inl (0, 24, fun _ => 0), .inl (0, 729, fun _ => 0), .inl (0, 5, fun _ => 0), .inr (1, [.ref 11, .int 0]), .inl (0, 80, fun _ => 0), .inl (0, 432, fun _ => 0), .inl (0, 144, fun _ => 0), .inl (1, 2, fun _ => 0)]) (n1 := 15) (pc := 4) B M dL_law_4 (kcX3_init_0 _) xt_70 xt_53 (by decide +kernel) ⟨by decide +kernel, by decide +kernel⟩ rfl (Nat.le_of_ble_eq_true rfl) (Nat.le_of_ble_eq_true rfl) (Nat.le_of_ble_eq_true rfl) xt_69 xt_68 (Nat.le_of_ble_eq_true rfl) (Nat.le_of_ble_eq_true rfl) rfl (Nat.le_of_ble_eq_true rfl) (Nat.le_of_ble_eq_true rfl) rfl rfl (fun cx2 t2 B M => ?_)
  have T2 := T1.tr t2 (Nat.le_of_ble_eq_true rfl)
  refine x_astore_n (L1 := [(1, .ref 0), (0, .ref 4000)]) (pc := 7) B dL_law_7 rfl (by decide) rfl ?_
  refine x_new (w1 := [.inr (3, [.ref 1, .ref 4, .ref 10, .ref 12, .ref 13, .ref 14, .int 0]), .inr (0, [.ref 2, .ref 3]), .inl (0, 72, f0X), .inl (0, 24, fun _ => 0), .inr (2, [.ref 5, .ref 8, .ref 9, .int 0]), .inr (0, [.ref 6, .ref 7]), .inl (0, 72, f0X), .inl (0, 24, fun _ => 0), .inl (0, 729, fun _ => 0), .inl (0, 5, fun _ => 0), .inr (1, [.ref 11, .int 0]), .inl (0, 80, fun _ => 0), .inl (0, 432, fun _ => 0), .inl (0, 144, fun _ => 0), .inl (1, 2, fun _ => 0), .inr (4, [.null, .null, .int 0, .null, .null, .null, .int 0, .int 0, .null, .int 0, .null, .null])]) (ci := 4) (N := 12) (ty := tyX4) (fs := [.null, .null, .int 0, .null, .null, .null, .int 0, .int 0, .null, .int 0, .null, .null]) (pc := 8) B M dL_law_8 rfl xi_4 tyX4_ok xt_596 xu_4 xt_58 (fun j hj => by rcases (show j = 0 ∨ j = 1 ∨ j = 2 ∨ j = 3 ∨ j = 4 ∨ j = 5 ∨ j = 6 ∨ j = 7 ∨ j = 8 ∨ j = 9 ∨ j = 10 ∨ j = 11 by omega) with rfl | rfl | rfl | rfl | rfl | rfl | rfl | rfl | rfl | rfl | rfl | rfl <;> rfl) rfl rfl (Nat.le_of_ble_eq_true rfl) (Nat.le_of_ble_eq_true rfl) (Nat.le_of_ble_eq_true rfl) rfl rfl rfl rfl (fun cx3 t3 B M => ?_)
  have T3 := T2.tr t3 (Nat.le_of_ble_eq_true rfl)
  refine x_dup (pc := 11) B dL_law_11 rfl ?_
  refine x_callI (w1 := [.inr (3, [.ref 1, .ref 4, .ref 10, .ref 12, .ref 13, .ref 14, .int 0]), .inr (0, [.ref 2, .ref 3]), .inl (0, 72, f0X), .inl (0, 24, fun _ => 0), .inr (2, [.ref 5, .ref 8, .ref 9, .int 0]), .inr (0, [.ref 6, .ref 7]), .inl (0, 72, f0X), .inl (0, 24, fun _ => 0), .inl (0, 729, fun _ => 0), .inl (0, 5, fun _ => 0), .inr (1, [.ref 11, .int 0]), .inl (0, 80, fun _ => 0), .inl (0, 432, fun _ => 0), .inl (0, 144, fun _ => 0), .inl (1, 2, fun _ => 0), .inr (4, [.ref 16, .ref 17, .int 0, .ref 18, .ref 19, .ref 20, .int 0, .int 0, .ref 21, .int 0, .ref 22, .ref 23]), .inl (0, 72, gBX), .inl (0, 432, fun _ => 0), .inl (0, 144, fun _ => 0), .inl (1, 2, fun _ => 0), .inl (0, 80, fun _ => 0), .inl (0, 85, fun _ => 0), .inl (0, 6, fun _ => 0), .inl (0, 3, fun _ => 0)]) (n1 := 24) (pc := 12) B M dL_law_12 (kcX4_init_15 _) xt_600 xt_58 (by decide +kernel) ⟨by decide +kernel, by decide +kernel⟩ rfl (Nat.le_of_ble_eq_true rfl) (Nat.le_of_ble_eq_true rfl) (Nat.le_of_ble_eq_true rfl) xt_599 xt_598 (Nat.le_of_ble_eq_true rfl) (Nat.le_of_ble_eq_true rfl) rfl (Nat.le_of_ble_eq_true rfl) (Nat.le_of_ble_eq_true rfl) rfl rfl (fun cx4 t4 B M => ?_)
  have T4 := T3.tr t4 (Nat.le_of_ble_eq_true rfl)
  refine x_astore_n (L1 := [(2, .ref 15), (1, .ref 0), (0, .ref 4000)]) (pc := 15) B dL_law_15 rfl (by decide) rfl ?_
  refine x_iconst (v := 0) (pc := 16) B dL_law_16 (by decide +kernel) ?_
  refine x_istore_n (L1 := [(3, .int 0), (2, .ref 15), (1, .ref 0), (0, .ref 4000)]) (pc := 17) B dL_law_17 rfl (by decide) rfl ?_
  refine x_sub (L1 := [(0, .ref 4000), (1, .ref 0), (2, .ref 15), (3, .int 0)]) [3, 2, 1, 0] rfl ?_
  obtain ⟨w9, e9⟩ := law_ok (xs := xs) hn 512 1000 0 w24 (by omega) (by omega) (by omega) w24_JX
  rw [← xl0] at e9
  exact pL_law_18 B (hX.t T4).p.p.p.p (hL.p.p.p.p.r M) rfl 1000 0 15 0 w24 e9
