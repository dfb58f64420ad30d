/-! THE START: what the tables and the premises say of the law's first state -/
theorem xl_1 {w : Cond} (h : w ∈ tables_1_1) : w ∈ lw_tbl := List.mem_append_right _ (List.mem_append_left _ h)
theorem xl_2 {w : Cond} (h : w ∈ tables_1_2) : w ∈ lw_tbl := List.mem_append_right _ (List.mem_append_right _ (List.mem_append_left _ h))
theorem xl_3 {w : Cond} (h : w ∈ tables_1_3) : w ∈ lw_tbl := List.mem_append_right _ (List.mem_append_right _ (List.mem_append_right _ (List.mem_append_left _ h)))
theorem xl_T {w : Cond} (h : w ∈ xT) : w ∈ lw_tbl := (List.mem_filter.mp h).1
theorem xn_ok : ∀ q ∈ xNs, Cond.methodLinkNest q.1 q.2.1 q.2.2.1 q.2.2.2 ∈ lw_tbl := List.forall_mem_cons.mpr ⟨xl_1 (List.mem_of_getElem? (i := 139) rfl), List.forall_mem_cons.mpr ⟨xl_1 (List.mem_of_getElem? (i := 230) rfl), List.forall_mem_cons.mpr ⟨xl_2 (List.mem_of_getElem? (i := 2) rfl), List.forall_mem_cons.mpr ⟨xl_2 (List.mem_of_getElem? (i := 20) rfl), List.forall_mem_cons.mpr ⟨xl_2 (List.mem_of_getElem? (i := 192) rfl), fun _ h => absurd h List.not_mem_nil⟩⟩⟩⟩⟩
theorem xr_ok : ∀ q ∈ xSr, Cond.stringRef RX1 q.1 q.2.1 ∈ lw_tbl := List.forall_mem_cons.mpr ⟨xl_2 (List.mem_of_getElem? (i := 221) rfl), List.forall_mem_cons.mpr ⟨xl_2 (List.mem_of_getElem? (i := 222) rfl), List.forall_mem_cons.mpr ⟨xl_2 (List.mem_of_getElem? (i := 223) rfl), List.forall_mem_cons.mpr ⟨xl_2 (List.mem_of_getElem? (i := 224) rfl), List.forall_mem_cons.mpr ⟨xl_2 (List.mem_of_getElem? (i := 225) rfl), List.forall_mem_cons.mpr ⟨xl_2 (List.mem_of_getElem? (i := 226) rfl), fun _ h => absurd h List.not_mem_nil⟩⟩⟩⟩⟩⟩
def tmX (i : Nat) : Term := .string RX1 ([27, 29, 31, 33, 35, 37].getD i 0)
abbrev flX : List Cond := flatC (Jvm.Cond.and given_1 narrow_1)
theorem fx_ex : ∀ i : Fin 6, Cond.exactly (tmX i.val) "java/lang/String" ∈ flX := by decide +kernel
theorem fx_co : ∀ i : Fin 6, Cond.eq (.field (tmX i.val) "java/lang/String" "coder" "B") (.int 0) ∈ flX := by decide +kernel
theorem fx_ar : ∀ i : Fin 6, Cond.arrayOf (.field (tmX i.val) "java/lang/String" "value" "[B") .byte ∈ flX := by decide +kernel
theorem fx_le : ∀ i : Fin 6, Cond.eq (.length (.field (tmX i.val) "java/lang/String" "value" "[B")) (.int (Int32.ofNat (xSn.getD i.val 0))) ∈ flX := by decide +kernel
theorem fx_el : ∀ i : Fin 6, ∀ j : Fin 6, j.val < xSn.getD i.val 0 → Cond.eq (.elem (.field (tmX i.val) "java/lang/String" "value" "[B") (.int (Int32.ofNat j.val))) (.int ((xSb.getD i.val []).getD j.val 0)) ∈ flX := by decide +kernel
theorem fx_ne : ∀ i j : Fin 6, i.val ≠ j.val → Cond.not (Cond.eq (tmX i.val) (tmX j.val)) ∈ flX ∨ Cond.not (Cond.eq (tmX j.val) (tmX i.val)) ∈ flX := by decide +kernel
theorem fx_cs : Cond.eq (.static "java/lang/String" "COMPACT_STRINGS" "Z") (.int 1) ∈ flX := by decide +kernel
theorem fx_fm : Cond.isRef (.static "jdk/internal/util/Preconditions" "SIOOBE_FORMATTER" "Ljava/util/function/BiFunction;") ∈ flX := by decide +kernel
theorem xSn_le : ∀ i : Fin 6, xSn.getD i.val 0 ≤ 6 := by decide +kernel
set_option maxHeartbeats 4000000 in
theorem whole_start {p : Program} {e : Env} {s : State} {m : MethodId} {below : List Frame} {meth : Method} {c : Code} (l : Launch) (hflags : l.flags = flags0) {b L : Nat} {xs : Nat → Int32} (hL : L ≤ 3072) (C0 : lw_At p s m meth c b L xs) : W p l e room_1 s m #[Value.ref b] below meth c s.heap [] 0 0 (lw_Z below #[Value.ref b] s) (entryFrame m ([Value.ref b] : List Value).toArray 4) := by
  obtain ⟨hx, hb, hr, hml, hown, hts, hX, hbl, hlocks, hgv⟩ := C0
  have hs : ∀ q ∈ flX, q.before #[Value.ref b] s = true := flat_of_before _ hgv
  have hT : ∀ w ∈ xT, w.before #[Value.ref b] s = true := fun w h => hts w (xl_T h)
  have hA : ∀ a : Nat, a < s.heap.size → ¬ (fun q : Nat => s.heap.size ≤ q) a := fun a h => Nat.not_le.mpr h
  obtain ⟨c0, i0, k0⟩ := u_known hT xi_0 (hT _ xu_0)
  obtain ⟨c1, i1, k1⟩ := u_known hT xi_1 (hT _ xu_1)
  obtain ⟨c2, i2, k2⟩ := u_known hT xi_2 (hT _ xu_2)
  obtain ⟨c3, i3, k3⟩ := u_known hT xi_3 (hT _ xu_3)
  obtain ⟨c4, i4, k4⟩ := u_known hT xi_4 (hT _ xu_4)
  obtain ⟨cI, kI, pI, a1, a2, a3⟩ := Cond.arrayClass_spec (hT _ xt_90)
  obtain ⟨cB, kB, pB, b1, b2, b3⟩ := Cond.arrayClass_spec (hT _ xt_131)
  obtain ⟨adK, adV, hSt, hEv⟩ := vk_Sof (args := #[Value.ref b]) (s := s) (N := 6) (tm := tmX) (len := xSn) (byt := xSb) (A := fun q : Nat => s.heap.size ≤ q) (fun i hi => Nat.lt_of_le_of_lt (xSn_le ⟨i, hi⟩) (by omega)) (fun i hi => hs _ (fx_ex ⟨i, hi⟩)) (fun i hi => hs _ (fx_co ⟨i, hi⟩)) (fun i hi => hs _ (fx_ar ⟨i, hi⟩)) (fun i hi => hs _ (fx_le ⟨i, hi⟩)) (fun i hi j hj => hs _ (fx_el ⟨i, hi⟩ ⟨j, Nat.lt_of_lt_of_le hj (xSn_le ⟨i, hi⟩)⟩ hj)) (fun i j hi hj hij => (fx_ne ⟨i, hi⟩ ⟨j, hj⟩ hij).elim (fun z => Or.inl (hs _ z)) (fun z => Or.inr (hs _ z))) hA
  have hZ1 : va_Z "java/lang/String" "COMPACT_STRINGS" "Z" (.int 1) (fun q : Nat => s.heap.size ≤ q) s s.heap := va_Zof (hts _ (xl_3 (List.mem_of_getElem? (i := 0) rfl))) (hT _ xt_62) (va_eqi (hs _ fx_cs)) hA
  have hZ2 : va_Zq "jdk/internal/util/Preconditions" "SIOOBE_FORMATTER" "Ljava/util/function/BiFunction;" (fun q : Nat => s.heap.size ≤ q) s s.heap := va_Zqof (hts _ (xl_3 (List.mem_of_getElem? (i := 16) rfl))) (hT _ xt_64) (hs _ fx_fm) hA
  obtain ⟨tF, hF⟩ : ∃ tF : Nat, va_Z "jdk/internal/util/Preconditions" "SIOOBE_FORMATTER" "Ljava/util/function/BiFunction;" .null (fun q : Nat => s.heap.size ≤ q) s s.heap ∨ va_Z "jdk/internal/util/Preconditions" "SIOOBE_FORMATTER" "Ljava/util/function/BiFunction;" (.ref tF) (fun q : Nat => s.heap.size ≤ q) s s.heap := by
    rcases hZ2 with h | ⟨t, h⟩
    · exact ⟨0, Or.inl h⟩
    · exact ⟨t, Or.inr h⟩
  have hK : va_K (fun k => if k = 0 then c0 else if k = 1 then c1 else if k = 2 then c2 else if k = 3 then c3 else c4, fun k => if k = 0 then i0 else if k = 1 then i1 else if k = 2 then i2 else if k = 3 then i3 else i4) xCl [(cI, .int), (cB, .boolean)] s := by
    refine ⟨fun k q hq => ?_, fun k q hq => ?_⟩
    · match k, hq with
      | 0, hq => cases hq; exact k0
      | 1, hq => cases hq; exact k1
      | 2, hq => cases hq; exact k2
      | 3, hq => cases hq; exact k3
      | 4, hq => cases hq; exact k4
      | k + 5, hq => simp [xCl] at hq
    · match k, hq with
      | 0, hq => cases hq; exact ⟨fun n z => ⟨fun k h => (by cases h), kI, a2, pI, a3⟩, a1⟩
      | 1, hq => cases hq; exact ⟨fun n z => ⟨fun k h => (by cases h), kB, b2, pB, b3⟩, b1⟩
      | k + 2, hq => simp at hq
  have hl := lv_entry ([Value.ref b]) (n := 4) (Nat.le_of_ble_eq_true rfl)
  rw [lg_entry_eq]
  refine law_go (K := (p, l, e, room_1, s, m, #[Value.ref b], below, meth, c, lw_Z below #[Value.ref b] s, fun q : Nat => s.heap.size ≤ q, 0, 0)) (cx := ((fun k => if k = 0 then c0 else if k = 1 then c1 else if k = 2 then c2 else if k = 3 then c3 else c4), (fun k => if k = 0 then i0 else if k = 1 then i1 else if k = 2 then i2 else if k = 3 then i3 else i4), (fun k => if k = 0 then cI else cB), (fun _ => 0), adK, adV, tF, b)) (n0 := L) (xs := xs) ?_ ?_ ?_ ?_ hL s.heap [] _ rfl (fun k q h => by simp [xw] at h) va_S.rf hl
  · refine ⟨hx, hb, hml, hown, hT, ⟨hK, fun q hq => va_Nw.of rfl (hts _ (xn_ok q hq)), hSt, ?_, hZ1, hF⟩, by omega, fun i j hi => absurd hi (by omega), fun i hi => absurd hi (by omega), fun q h => h, Nat.le_of_ble_eq_true rfl, Nat.le_of_ble_eq_true rfl, Nat.zero_le _, Nat.zero_le _⟩
    exact List.forall_mem_cons.mpr ⟨vk_R.of (hts _ (xr_ok _ (List.mem_of_getElem? (i := 0) rfl))) (hEv 0 (by omega)), List.forall_mem_cons.mpr ⟨vk_R.of (hts _ (xr_ok _ (List.mem_of_getElem? (i := 1) rfl))) (hEv 1 (by omega)), List.forall_mem_cons.mpr ⟨vk_R.of (hts _ (xr_ok _ (List.mem_of_getElem? (i := 2) rfl))) (hEv 2 (by omega)), List.forall_mem_cons.mpr ⟨vk_R.of (hts _ (xr_ok _ (List.mem_of_getElem? (i := 3) rfl))) (hEv 3 (by omega)), List.forall_mem_cons.mpr ⟨vk_R.of (hts _ (xr_ok _ (List.mem_of_getElem? (i := 4) rfl))) (hEv 4 (by omega)), List.forall_mem_cons.mpr ⟨vk_R.of (hts _ (xr_ok _ (List.mem_of_getElem? (i := 5) rfl))) (hEv 5 (by omega)), fun _ h => absurd h List.not_mem_nil⟩⟩⟩⟩⟩⟩
  · exact ⟨rfl, rfl, Nat.le_refl _, Nat.le_refl _⟩
  · exact ⟨hX, hbl, hA b hbl⟩
  · exact ⟨hb, rfl, ⟨b, rfl⟩, hr, hlocks, rfl, fun q h => h⟩
