/-! ROWS FOR MAKING: a new cell is a new place of the world -/
theorem xu_0 : Cond.instantiable RX0 2 ∈ xT := xT_a1 (List.mem_of_getElem? (i := 23) rfl) rfl
theorem xu_1 : Cond.instantiable RX1 2 ∈ xT := xT_a1 (List.mem_of_getElem? (i := 64) rfl) rfl
theorem xu_2 : Cond.instantiable RX2 4 ∈ xT := xT_a1 (List.mem_of_getElem? (i := 43) rfl) rfl
theorem xu_3 : Cond.instantiable RX3 7 ∈ xT := xT_a1 (List.mem_of_getElem? (i := 15) rfl) rfl
theorem xu_4 : Cond.instantiable RX4 12 ∈ xT := xT_a3 (List.mem_of_getElem? (i := 84) rfl) rfl
/-- the same surroundings with other addresses of the places -/
def cxa (cx : CX) (ad : Nat → Nat) : CX := (cx.1, cx.2.1, cx.2.2.1, ad, cx.2.2.2.2)
/-- the first n places have kept their addresses -/
def Xt (cx : CX) (n : Nat) (cx1 : CX) : Prop := ∃ ad, cx1 = cxa cx ad ∧ ∀ i, i < n → ad i = xad cx i
theorem Xt.rf (cx : CX) (n : Nat) : Xt cx n cx := ⟨xad cx, rfl, fun _ _ => rfl⟩
theorem Xt.tr {cx cx1 cx2 : CX} {n n1 : Nat} (h : Xt cx n cx1) (h1 : Xt cx1 n1 cx2) (hn : n ≤ n1) : Xt cx n cx2 := by
  obtain ⟨ad, rfl, a⟩ := h
  obtain ⟨ad1, rfl, b⟩ := h1
  exact ⟨ad1, rfl, fun i hi => (b i (by omega)).trans (a i hi)⟩
/-- a value that speaks of the places below n alone, or of constants -/
def vcl (n : Nat) : Value → Bool
  | .ref k => decide (k < n) || decide (1000 ≤ k)
  | _ => true
def ecl (n : Nat) : XE → Bool
  | .inl _ => true
  | .inr b => b.2.all (vcl n)
theorem xv_ad {cx : CX} {ad : Nat → Nat} {n : Nat} {v : Value} (h : vcl n v = true) (had : ∀ i, i < n → ad i = xad cx i) : xv (cxa cx ad) v = xv cx v := by
  cases v with
  | ref k =>
    have h' : (decide (k < n) || decide (1000 ≤ k)) = true := h
    show Value.ref (xa (cxa cx ad) k) = Value.ref (xa cx k)
    congr 1
    unfold xa
    by_cases hk : k < 1000
    · rw [if_pos hk, if_pos hk]
      have : k < n := by
        rw [Bool.or_eq_true] at h'
        rcases h' with h' | h'
        · exact of_decide_eq_true h'
        · exact absurd hk (Nat.not_lt.mpr (of_decide_eq_true h'))
      exact had k this
    · rw [if_neg hk, if_neg hk]
      rfl
  | _ => rfl
theorem xvs_ad {cx : CX} {ad : Nat → Nat} {n : Nat} {st : List Value} (h : st.all (vcl n) = true) (had : ∀ i, i < n → ad i = xad cx i) : st.map (xv (cxa cx ad)) = st.map (xv cx) := by
  apply List.map_congr_left
  intro v hv
  exact xv_ad (List.all_eq_true.mp h v hv) had
theorem xL_ad {cx : CX} {ad : Nat → Nat} {n : Nat} {L : List (Nat × Value)} (h : L.all (fun q => vcl n q.2) = true) (had : ∀ i, i < n → ad i = xad cx i) : L.map (fun q => (q.1, xv (cxa cx ad) q.2)) = L.map (fun q => (q.1, xv cx q.2)) := by
  apply List.map_congr_left
  intro q hq
  have h1 : vcl n q.2 = true := List.all_eq_true.mp h q hq
  show (q.1, xv (cxa cx ad) q.2) = (q.1, xv cx q.2)
  rw [xv_ad h1 had]
theorem xe_ad {cx : CX} {ad : Nat → Nat} {n : Nat} {e : XE} (h : ecl n e = true) (had : ∀ i, i < n → ad i = xad cx i) : xe (cxa cx ad) e = xe cx e := by
  cases e with
  | inl a => rfl
  | inr b =>
    show Sum.inr (b.1, b.2.map (xv (cxa cx ad))) = Sum.inr (b.1, b.2.map (xv cx))
    rw [xvs_ad h had]
theorem xw_ad {cx : CX} {ad : Nat → Nat} {n : Nat} {w : XW} (hw : w.length = n) (h : w.all (ecl n) = true) (had : ∀ i, i < n → ad i = xad cx i) : xw (cxa cx ad) w = xw cx w := by
  apply List.ext_getElem?
  intro k
  rw [xw_get, xw_get]
  cases e : w[k]? with
  | none => rfl
  | some x =>
    have hk : k < n := by rw [← hw]; exact (List.getElem?_eq_some_iff.mp e).1
    have hx := List.all_eq_true.mp h x (List.mem_of_getElem? e)
    show some (ad k, xe (cxa cx ad) x) = some (xad cx k, xe cx x)
    rw [had k hk, xe_ad hx had]
theorem xw_new {cx : CX} {ad : Nat → Nat} {n q : Nat} {w : XW} {e : XE} {e1 : va_E} (hw : w.length = n) (h : w.all (ecl n) = true) (had : ∀ i, i < n → ad i = xad cx i) (hq : ad n = q) (he : xe (cxa cx ad) e = e1) : xw (cxa cx ad) (w ++ [e]) = xw cx w ++ [(q, e1)] := by
  rw [← xw_ad hw h had, ← he, ← hq, ← hw]
  unfold xw
  rw [List.mapIdx_concat]
  rfl
/-- cells and slots made so far, of what may be made -/
def XM (K : KX) (mc ms ca sl : Nat) : Prop := match K with
  | (_, _, _, R, _, _, _, _, _, _, _, _, cells, slots) => cells = ca ∧ slots = sl ∧ mc ≤ R.cells ∧ ms ≤ R.slots
def Kp (K : KX) (mc ms : Nat) : KX := match K with
  | (p, l, e, R, s, m, args, below, meth, c, Q, A, cells, slots) => (p, l, e, R, s, m, args, below, meth, c, Q, A, cells + mc, slots + ms)
/-- a constructor's frame -/
def KI (K : KX) : Prop := match K with
  | (_, _, _, _, _, _, _, _, meth, _, _, _, _, _) => meth.name = "<init>"
theorem KI.p {K : KX} {a b : Nat} (h : KI K) : KI (Kp K a b) := by
  obtain ⟨p, l, e, R, s, m, args, below, meth, c, Q, A, cells, slots⟩ := K
  exact h
def xQn (cx : CX) (w w1 : XW) (A : Nat → Prop) : Array Value → State → Outcome → State → Prop := fun _ st oc t => oc = .returned none ∧ (∃ ad : Nat → Nat, (∀ i, i < w.length → ad i = xad cx i) ∧ va_P (xG0 cx) xCl (xw (cxa cx ad) w1) t.heap ∧ va_D A (xw (cxa cx ad) w1)) ∧ va_F A st t
def XRn (K : KX) (cx : CX) (w w1 : XW) (mc ms : Nat) : Prop := match K with
  | (_, _, _, _, s, _, args, below, meth, _, Q, A, _, _) => meth.sig.returnType = none ∧ meth.locks = false ∧ Q = MQ below (xQn cx w w1 A) args s mc ms A
theorem XRn.p {K : KX} {cx : CX} {w w1 : XW} {mc ms a b : Nat} (h : XRn K cx w w1 mc ms) : XRn (Kp K a b) cx w w1 mc ms := by
  obtain ⟨p, l, e, R, s, m, args, below, meth, c, Q, A, cells, slots⟩ := K
  exact h
/-- a constructor's contract: in this world it leaves the world w1, which may have new places -/
def Cni (y : MethodName) (bytes : ByteArray) (maxL fr lo mc ms : Nat) (cx : CX) (av : List Value) (w w1 : XW) : Prop :=
  ∀ (l : Launch) (sz : Nat), Met l y (.code y bytes maxL none :: xT) ({ frames := fr, cells := mc, slots := ms, locals := lo } : Room) (va_Pc (av.map (xv cx)) (fun U => w.length ≤ 1000 ∧ U.heap.size = sz ∧ xG cx (va_A (xw cx w) sz) U ∧ va_P (xG0 cx) xCl (xw cx w) U.heap ∧ va_D (fun _ => True) (xw cx w))) (xQn cx w w1 (va_A (xw cx w) sz)) mc ms (va_A (xw cx w) sz)
set_option maxHeartbeats 4000000 in
theorem Cni_of {y : MethodName} {bytes : ByteArray} {maxL : Nat} {fr lo mc ms : Nat} {cx : CX} {av : List Value} {w : XW} {w1 : XW} (hy : plainName y.cls = true) (hyn : y.name = "<init>") (hn : (lg_sl av).length ≤ maxL)
    (body : ∀ K : KX, XB K cx y.cls bytes maxL w.length fr lo → XM K mc ms 0 0 → KI K → XRn K cx w w1 mc ms → Wx K cx maxL w.length 0 (lv_args 0 av) [] w) : Cni y bytes maxL fr lo mc ms cx av w w1 := by
  intro l sz
  refine Met.ofW (cc := bytes) (maxL := maxL) (ret := none) hy rfl ?_
  intro p e s m args below meth c s₁ B hml hv
  obtain ⟨rfl, h1000, hsz, hG, hP, hD0⟩ := hv
  subst hsz
  have hts := atoms_spec (ws := .code y bytes maxL none :: xT) B.pre
  have hown : s.vm.findClass y.cls = some m.cls := findClass_of_methodNamed B.named
  have hin : meth.name = "<init>" := ((name_of_methodNamed B.named B.method).1).trans hyn
  obtain ⟨d1, d2⟩ := xD_of (hD0.self (sz := s.heap.size))
  have hl := lv_entry (av.map (xv cx)) (n := maxL) (by rw [xsl]; exact hn)
  rw [lg_entry_eq]
  rw [xargs] at hl
  exact body (p, l, e, { frames := fr, cells := mc, slots := ms, locals := lo }, s, m, (av.map (xv cx)).toArray, below, meth, c, _, va_A (xw cx w) s.heap.size, 0, 0) ⟨B.exec, B.bytes, hml, hown, fun w hw => hts w (List.mem_cons_of_mem _ hw), hG, h1000, d1, d2, fun q h => Or.inr h, Nat.le_refl _, Nat.le_refl _, Nat.zero_le _, Nat.zero_le _⟩ ⟨rfl, rfl, Nat.le_refl _, Nat.le_refl _⟩ hin ⟨B.returns, B.notSynchronized, rfl⟩ s.heap [] _ rfl hP va_S.rf hl
section XNEW
variable {K : KX} {cx : CX} {own : String} {bytes : ByteArray} {nL n fr lo pc : Nat} {L : List (Nat × Value)} {st : List Value} {w : XW} {mc ms ca sl : Nat}
theorem x_new {C : String} {index ci N : Nat} {T : u_T} {fs : List Value} {ty : Nat → FieldType} {w1 : XW} (B : XB K cx own bytes nL n fr lo) (M : XM K mc ms ca sl) (hd : decode bytes pc = .ok (.new index, 3)) (hcl : xCl[ci]? = some (C, T, N)) (hws : ∀ w ∈ u_ws C T N, w ∈ xT) (hty : ∀ k, k < N → parseFieldDescriptor (T k).2.2.1 = some (ty k)) (hl9 : Cond.classLink own index C ∈ xT) (hi9 : Cond.instantiable C N ∈ xT) (hini : Cond.initialized C ∈ xT) (hfs : ∀ j, j < N → defaultValue (ty j) = vp_V fs j) (hfc : fs.all (vcl 0) = true) (hfx : fs.map (xv cx) = fs) (hca : ca + 1 ≤ mc) (hsl : sl + N ≤ ms) (hn9 : n + 1 ≤ 1000) (hLc : L.all (fun q => vcl n q.2) = true) (hst : st.all (vcl n) = true) (hwc : w.all (ecl n) = true) (hw1 : w ++ [.inr (ci, fs)] = w1) (k : ∀ cx1, Xt cx n cx1 → XB (Kp K 1 N) cx1 own bytes nL (n + 1) fr lo → XM (Kp K 1 N) mc ms (ca + 1) (sl + N) → Wx (Kp K 1 N) cx1 nL (n + 1) (pc + 3) L (.ref n :: st) w1) : Wx K cx nL n pc L st w := by
  subst hw1
  obtain ⟨p, l, e, R, s, m, args, below, meth, c, Q, A, cells, slots⟩ := K
  obtain ⟨hx, hb, hml, hown, hts, hG, hn0, hi, hA, hA0, hfr, hlo, hce, hsl0⟩ := B
  obtain ⟨rfl, rfl, hmc, hms⟩ := M
  intro H locs ls hn hP hS hl
  have hD : va_D A (xw cx w) := xD_B (K := (p, l, e, R, s, m, args, below, meth, c, Q, A, cells, slots)) hn hi hA
  refine va_new (c0 := c) (C := C) (T := T) (N := N) (ci := ci) (fs := fs) hx hb hts hws ty hty hown (hts _ hl9) (hts _ hi9) (hts _ hini) hG.1 hP hD hS hA0 hcl hfs (by omega) (by omega) hd (fun q H1 hP1 hD1 hS1 => ?_)
  have had : ∀ i, i < n → (fun k => if k = n then q else xad cx k) i = xad cx i := fun i hi => if_neg (by omega)
  have hnq : (fun k => if k = n then q else xad cx k) n = q := if_pos rfl
  have hfx1 : xe (cxa cx (fun k => if k = n then q else xad cx k)) (.inr (ci, fs)) = .inr (ci, fs) := by
    show Sum.inr (ci, fs.map _) = _
    rw [xvs_ad (n := 0) hfc (fun i hi => absurd hi (by omega)), hfx]
  have e1 := xw_new hn hwc had hnq hfx1
  rw [← e1] at hP1 hD1
  obtain ⟨d1, d2⟩ := xD_of hD1
  have hlen : (w ++ [(.inr (ci, fs) : XE)]).length = n + 1 := by rw [List.length_append, hn]; rfl
  rw [hlen] at d1 d2
  have h9 := k (cxa cx (fun k => if k = n then q else xad cx k)) ⟨_, rfl, had⟩ ⟨hx, hb, hml, hown, hts, hG, hn9, d1, d2, hA0, hfr, hlo, by omega, by omega⟩ ⟨rfl, rfl, hmc, hms⟩ H1 locs ls hlen hP1 hS1 (by rw [xL_ad hLc had]; exact hl)
  rw [List.map_cons, xvs_ad hst had] at h9
  have hr : xv (cxa cx (fun k => if k = n then q else xad cx k)) (.ref n) = .ref q := by
    show Value.ref (xa _ n) = _
    rw [xa_w (by omega)]
    exact congrArg Value.ref hnq
  rw [hr] at h9
  exact h9
theorem x_newI {z : Int32} {N : Nat} {w1 : XW} (B : XB K cx own bytes nL n fr lo) (M : XM K mc ms ca sl) (hd : decode bytes pc = .ok (.newarray .int, 2)) (hz0 : ¬ z < 0) (hz : z.toNatClampNeg = N) (hb9 : N * 4 ≤ 536870912) (hca : ca + 1 ≤ mc) (hsl : sl + N ≤ ms) (hn9 : n + 1 ≤ 1000) (hLc : L.all (fun q => vcl n q.2) = true) (hst : st.all (vcl n) = true) (hwc : w.all (ecl n) = true) (hw1 : w ++ [.inl (0, N, fun _ => 0)] = w1) (k : ∀ cx1, Xt cx n cx1 → XB (Kp K 1 N) cx1 own bytes nL (n + 1) fr lo → XM (Kp K 1 N) mc ms (ca + 1) (sl + N) → Wx (Kp K 1 N) cx1 nL (n + 1) (pc + 2) L (.ref n :: st) w1) : Wx K cx nL n pc L (.int z :: st) w := by
  subst hw1
  obtain ⟨p, l, e, R, s, m, args, below, meth, c, Q, A, cells, slots⟩ := K
  obtain ⟨hx, hb, hml, hown, hts, hG, hn0, hi, hA, hA0, hfr, hlo, hce, hsl0⟩ := B
  obtain ⟨rfl, rfl, hmc, hms⟩ := M
  intro H locs ls hn hP hS hl
  have hD : va_D A (xw cx w) := xD_B (K := (p, l, e, R, s, m, args, below, meth, c, Q, A, cells, slots)) hn hi hA
  refine va_newa (atype := .int) (ty := .int) (a0 := (N, .inl (fun _ => 0))) hx hb (hts _ xt_90) rfl hG.1 hP hD hS hA0 (fun _ => rfl) hz0 hz hb9 (by omega) (by omega) hd (fun q cA H1 hK1 hP1 hD1 hS1 => ?_)
  have hcA : cA = xcA cx 0 := by
    have a1 := va_nm_int (hK1.2 2 _ rfl).2
    have a2 := va_nm_int (hG.1.2 0 _ rfl).2
    exact Option.some.inj (a1.symm.trans a2)
  subst hcA
  have had : ∀ i, i < n → (fun k => if k = n then q else xad cx k) i = xad cx i := fun i hi => if_neg (by omega)
  have hnq : (fun k => if k = n then q else xad cx k) n = q := if_pos rfl
  have e1 := xw_new (e := .inl (0, N, fun _ => 0)) hn hwc had hnq rfl
  have hP2 := hP1
  have hD2 := hD1
  rw [show (Sum.inl (xcA cx 0, (N, Sum.inl (fun _ => 0))) : va_E) = xe (cxa cx (fun k => if k = n then q else xad cx k)) (.inl (0, N, fun _ => 0)) from rfl, ← e1] at hP2 hD2
  obtain ⟨d1, d2⟩ := xD_of hD2
  have hlen : (w ++ [(.inl (0, N, fun _ => 0) : XE)]).length = n + 1 := by rw [List.length_append, hn]; rfl
  rw [hlen] at d1 d2
  have h9 := k (cxa cx (fun k => if k = n then q else xad cx k)) ⟨_, rfl, had⟩ ⟨hx, hb, hml, hown, hts, hG, hn9, d1, d2, hA0, hfr, hlo, by omega, by omega⟩ ⟨rfl, rfl, hmc, hms⟩ H1 locs ls hlen hP2 hS1 (by rw [xL_ad hLc had]; exact hl)
  rw [List.map_cons, xvs_ad hst had] at h9
  have hr : xv (cxa cx (fun k => if k = n then q else xad cx k)) (.ref n) = .ref q := by
    show Value.ref (xa _ n) = _
    rw [xa_w (by omega)]
    exact congrArg Value.ref hnq
  rw [hr] at h9
  exact h9
theorem x_newZ {z : Int32} {N : Nat} {w1 : XW} (B : XB K cx own bytes nL n fr lo) (M : XM K mc ms ca sl) (hd : decode bytes pc = .ok (.newarray .boolean, 2)) (hz0 : ¬ z < 0) (hz : z.toNatClampNeg = N) (hb9 : N * 1 ≤ 536870912) (hca : ca + 1 ≤ mc) (hsl : sl + N ≤ ms) (hn9 : n + 1 ≤ 1000) (hLc : L.all (fun q => vcl n q.2) = true) (hst : st.all (vcl n) = true) (hwc : w.all (ecl n) = true) (hw1 : w ++ [.inl (1, N, fun _ => 0)] = w1) (k : ∀ cx1, Xt cx n cx1 → XB (Kp K 1 N) cx1 own bytes nL (n + 1) fr lo → XM (Kp K 1 N) mc ms (ca + 1) (sl + N) → Wx (Kp K 1 N) cx1 nL (n + 1) (pc + 2) L (.ref n :: st) w1) : Wx K cx nL n pc L (.int z :: st) w := by
  subst hw1
  obtain ⟨p, l, e, R, s, m, args, below, meth, c, Q, A, cells, slots⟩ := K
  obtain ⟨hx, hb, hml, hown, hts, hG, hn0, hi, hA, hA0, hfr, hlo, hce, hsl0⟩ := B
  obtain ⟨rfl, rfl, hmc, hms⟩ := M
  intro H locs ls hn hP hS hl
  have hD : va_D A (xw cx w) := xD_B (K := (p, l, e, R, s, m, args, below, meth, c, Q, A, cells, slots)) hn hi hA
  refine va_newa (atype := .boolean) (ty := .boolean) (a0 := (N, .inl (fun _ => 0))) hx hb (hts _ xt_131) rfl hG.1 hP hD hS hA0 (fun _ => rfl) hz0 hz hb9 (by omega) (by omega) hd (fun q cA H1 hK1 hP1 hD1 hS1 => ?_)
  have hcA : cA = xcA cx 1 := by
    have a1 := va_nm_boolean (hK1.2 2 _ rfl).2
    have a2 := va_nm_boolean (hG.1.2 1 _ rfl).2
    exact Option.some.inj (a1.symm.trans a2)
  subst hcA
  have had : ∀ i, i < n → (fun k => if k = n then q else xad cx k) i = xad cx i := fun i hi => if_neg (by omega)
  have hnq : (fun k => if k = n then q else xad cx k) n = q := if_pos rfl
  have e1 := xw_new (e := .inl (1, N, fun _ => 0)) hn hwc had hnq rfl
  have hP2 := hP1
  have hD2 := hD1
  rw [show (Sum.inl (xcA cx 1, (N, Sum.inl (fun _ => 0))) : va_E) = xe (cxa cx (fun k => if k = n then q else xad cx k)) (.inl (1, N, fun _ => 0)) from rfl, ← e1] at hP2 hD2
  obtain ⟨d1, d2⟩ := xD_of hD2
  have hlen : (w ++ [(.inl (1, N, fun _ => 0) : XE)]).length = n + 1 := by rw [List.length_append, hn]; rfl
  rw [hlen] at d1 d2
  have h9 := k (cxa cx (fun k => if k = n then q else xad cx k)) ⟨_, rfl, had⟩ ⟨hx, hb, hml, hown, hts, hG, hn9, d1, d2, hA0, hfr, hlo, by omega, by omega⟩ ⟨rfl, rfl, hmc, hms⟩ H1 locs ls hlen hP2 hS1 (by rw [xL_ad hLc had]; exact hl)
  rw [List.map_cons, xvs_ad hst had] at h9
  have hr : xv (cxa cx (fun k => if k = n then q else xad cx k)) (.ref n) = .ref q := by
    show Value.ref (xa _ n) = _
    rw [xa_w (by omega)]
    exact congrArg Value.ref hnq
  rw [hr] at h9
  exact h9
theorem x_putQ {ci N k0 index : Nat} {T : u_T} {Cn ref nm ds : String} {tys : Nat → FieldType} {a x : Nat} {fs : List Value} {ft : FieldType} {w1 : XW} (B : XB K cx own bytes nL n fr lo) (hd : decode bytes pc = .ok (.putfield index, 3)) (hcl : xCl[ci]? = some (Cn, T, N)) (hws : ∀ w ∈ u_ws Cn T N, w ∈ xT) (hk : k0 < N) (hT : (T k0).2.1 = nm ∧ (T k0).2.2.1 = ds ∧ (T k0).1 = ref) (hl9 : Cond.fieldLink own index ref nm ds ∈ xT) (htys : ∀ k, k < N → parseFieldDescriptor (T k).2.2.1 = some (tys k)) (hnm : ∀ a, a < N → ∀ b, b < N → a ≠ b → (T a).2.1 ≠ (T b).2.1) (hfin : (T k0).2.2.2 = true) (hdecl : (T k0).1 = own) (hin : KI K) (hds : parseFieldDescriptor ds = some ft) (hnar : ∀ q : Nat, narrow ft (.ref q) = .ref q) (hfit : ∀ q : Nat, fits ft (.ref q) = true) (he : w[a]? = some (.inr (ci, fs))) (hlen : k0 < fs.length) (hw1 : w.set a (.inr (ci, fs.set k0 (.ref x))) = w1) (k : Wx K cx nL n (pc + 3) L st w1) : Wx K cx nL n pc L (.ref x :: .ref a :: st) w := by
  obtain ⟨p, l, e, R, s, m, args, below, meth, c, Q, A, cells, slots⟩ := K
  obtain ⟨hx, hb, hml, hown, hts, hG, hn0, hi, hA, hA0, hfr, hlo, hce, hsl⟩ := B
  intro H locs ls hn hP hS hl
  have hxa : xa cx a = xad cx a := xa_w (by have := xlt he; omega)
  have hD : va_D A (xw cx w) := xD_B (K := (p, l, e, R, s, m, args, below, meth, c, Q, A, cells, slots)) hn hi hA
  exact va_putF (cl := xCl) (C := Cn) (T := T) (N := N) (ref := ref) (index := index) (v := .ref (xa cx x)) (ty := ft) (a := xa cx a) hx hb hts hws tys htys hnm hown hG.1 hP hD hS a (by rw [hxa]; exact xw_at he) hcl k0 hk (by rw [hT.1, hT.2.1]; exact hts _ hl9) (by rw [hT.1, hT.2.1, hT.2.2]; exact fun _ h9 => h9) hfin hin hdecl (by rw [hT.2.1]; exact hds) (hnar _) (hfit _) (by rw [List.length_map]; exact hlen) hd (fun H1 locs1 hP1 hD1 hS1 => k H1 locs1 ls (by rw [← hw1, List.length_set]; exact hn) (by
      rw [← hw1, ← xw_set]
      rw [hxa] at hP1
      show va_P _ _ ((xw cx w).set a (xad cx a, .inr (ci, (fs.set k0 (.ref x)).map (xv cx)))) _
      rw [List.map_set]
      exact hP1) hS1 hl)
theorem x_oinit {a index : Nat} (B : XB K cx own bytes nL n fr lo) (hd : decode bytes pc = .ok (.invokespecial index, 3)) (hl9 : Cond.methodLink own index objectInit ∈ xT) (hfr9 : 1 ≤ fr) (hlo9 : 20 ≤ lo) (hst : (st.map fun v => v.category).sum ≤ 8) (k : Wx K cx nL n (pc + 3) L st w) : Wx K cx nL n pc L (.ref a :: st) w := by
  obtain ⟨p, l, e, R, s, m, args, below, meth, c, Q, A, cells, slots⟩ := K
  obtain ⟨hx, hb, hml, hown, hts, hG, hn0, hi, hA, hA0, hfr, hlo, hce, hsl⟩ := B
  intro H locs ls hn hP hS hl
  have hsum : ((st.map (xv cx)).map fun v => v.category).sum ≤ 8 := by
    rw [List.map_map, show ((fun v : Value => v.category) ∘ xv cx) = (fun v => v.category) from funext (xv_cat cx)]
    exact hst
  have h9 := k H locs ls hn hP hS hl
  refine W.objInit hx hb hown (hts _ hl9) (hts _ xt_72) (hts _ xt_73) (g := F0 m pc ls (.ref (xa cx a) :: st.map (xv cx))) rfl (hl.1.trans hml.symm) rfl hd (Nat.le_trans hfr9 hfr) (by show 2 * 0 + _ + _ ≤ _; omega) ?_
  exact h9
theorem x_nret {cx0 : CX} {w0 w1 : XW} (B : XB K cx own bytes nL n fr lo) (M : XM K mc ms mc ms) (hR : XRn K cx0 w0 w1 mc ms) (ht9 : Xt cx0 w0.length cx) (hd : decode bytes pc = .ok (.return_, 1)) (hw : w = w1) : Wx K cx nL n pc L [] w := by
  subst hw
  obtain ⟨p, l, e, R, s, m, args, below, meth, c, Q, A, cells, slots⟩ := K
  obtain ⟨hx, hb, hml, hown, hts, hG, hn0, hi, hA, hA0, hfr, hlo, hce, hsl⟩ := B
  obtain ⟨rfl, rfl, hmc, hms⟩ := M
  obtain ⟨ad, rfl, had⟩ := ht9
  intro H locs ls hn hP hS hl
  have hD : va_D A (xw (cxa cx0 ad) w) := xD_B (K := (p, l, e, R, s, m, args, below, meth, c, Q, A, cells, slots)) hn hi hA
  obtain ⟨hr, hlk, rfl⟩ := hR
  exact W.vret hx hb hr (fun t ht hW => ⟨rfl, ⟨ad, had, by rw [ht]; exact hP, hD⟩, hS.F ht⟩) hS.2.2 hd (hlocks := hlk)
theorem xblindN {a : Nat} (sz : Nat) : FrameBlind (va_Pc ([Value.ref a].map (xv cx)) (fun U => w.length ≤ 1000 ∧ U.heap.size = sz ∧ xG cx (va_A (xw cx w) sz) U ∧ va_P (xG0 cx) xCl (xw cx w) U.heap ∧ va_D (fun _ => True) (xw cx w))) := xblind [.ref a] sz
theorem x_callI {index : Nat} {y : MethodName} {bs : ByteArray} {mL fr1 lo1 mc1 ms1 n1 : Nat} {w1 : XW} {a : Nat} (B : XB K cx own bytes nL n fr lo) (M : XM K mc ms ca sl) (hd : decode bytes pc = .ok (.invokespecial index, 3)) (hC : Cni y bs mL fr1 lo1 mc1 ms1 cx [.ref a] w w1) (hcw : Cond.code y bs mL none ∈ xT) (hini : Cond.initialized y.cls ∈ xT) (hnp : (parseMethodDescriptor y.desc).map (fun d => d.parameters.length) = some 0) (hy : y.cls ≠ "java/lang/invoke/MethodHandle" ∧ y.cls ≠ "java/lang/invoke/VarHandle") (hy1 : y.name = "<init>") (hfr9 : fr1 + 1 ≤ fr) (hlo9 : 8 + (mL + 11) + lo1 ≤ lo) (hst : (st.map fun v => v.category).sum ≤ 8) (hins : Cond.instanceMethod y ∈ xT) (hl9 : Cond.methodLink own index y ∈ xT) (hca : ca + mc1 ≤ mc) (hsl : sl + ms1 ≤ ms) (hn1 : w1.length = n1) (hn2 : n1 ≤ 1000) (hn3 : n ≤ n1) (hLc : L.all (fun q => vcl n q.2) = true) (hstc : st.all (vcl n) = true) (k : ∀ cx1, Xt cx n cx1 → XB (Kp K mc1 ms1) cx1 own bytes nL n1 fr lo → XM (Kp K mc1 ms1) mc ms (ca + mc1) (sl + ms1) → Wx (Kp K mc1 ms1) cx1 nL n1 (pc + 3) L st w1) : Wx K cx nL n pc L (.ref a :: st) w := by
  obtain ⟨p, l, e, R, s, m, args, below, meth, c, Q, A, cells, slots⟩ := K
  obtain ⟨hx, hb, hml, hown, hts, hG, hn0, hi, hA, hA0, hfr, hlo, hce, hsl0⟩ := B
  obtain ⟨rfl, rfl, hmc, hms⟩ := M
  intro H locs ls hn hP hS hl
  have hA1 := xA_in (s := s) hn hA hA0 hS
  have hD : va_D A (xw cx w) := xD_B (K := (p, l, e, R, s, m, args, below, meth, c, Q, A, cells, slots)) hn hi hA
  have hpre : ∀ U : State, U.heap = H → s.WarmedH U.vm → w.length ≤ 1000 ∧ U.heap.size = H.size ∧ xG cx (va_A (xw cx w) H.size) U ∧ va_P (xG0 cx) xCl (xw cx w) U.heap ∧ va_D (fun _ => True) (xw cx w) := fun U hU hW => ⟨by omega, by rw [hU], xG_warm hG (by rw [hU]; exact hS) hA1 hW, by rw [hU]; exact hP, hD.weaken (fun _ _ _ _ => trivial)⟩
  have hsum : ((st.map (xv cx)).map fun v => v.category).sum ≤ 8 := by
    rw [List.map_map, show ((fun v : Value => v.category) ∘ xv cx) = (fun v => v.category) from funext (xv_cat cx)]
    exact hst
  have hpar : ∀ sig, parseMethodDescriptor y.desc = some sig → 0 = sig.parameters.length := by
    intro sig h
    rw [h] at hnp
    exact (Option.some.inj hnp).symm
  have hrun := va_runI (e := e) (below := below) (meth := meth) (locs := locs) (As := []) (b := xa cx a) (rest := st.map (xv cx)) (cells := cells) (slots := slots) (g := F0 m pc ls ((.ref a :: st).map (xv cx))) ⟨hx, hb, hml, hown, hts⟩ (hC l H.size) ⟨(⟨rfl, rfl, Nat.le_trans hfr9 hfr, Nat.le_trans hlo9 hlo, xws_ok hts hcw, List.mem_cons_self, hts _ hcw, hts _ hini, hy, hpar, hts _ hl9⟩ : CallB R s args own index y bs mL none (.code y bs mL none :: xT) { frames := fr1, cells := mc1, slots := ms1, locals := lo1 } mc1 ms1 0), hy1, hts _ hins⟩ ⟨xblindN H.size, fun U hU hW => ⟨rfl, hpre U hU hW⟩⟩ rfl rfl hl.1 rfl (lv_room hsum) hd ⟨by omega, by omega⟩
  intro T hT X
  obtain ⟨v, st₀, t, T', L9, h0, X', hL, e1, e2, ⟨hv, ⟨ad, g1, g2, g3⟩, hz, hk⟩, st9⟩ := hrun T hT X
  cases hv
  rw [h0] at hz hk
  have g1' : ∀ i, i < n → ad i = xad cx i := fun i hi => g1 i (by omega)
  obtain ⟨d1, d2⟩ := xD_of g3
  rw [hn1] at d1 d2
  have h9 := k (cxa cx ad) ⟨ad, rfl, g1'⟩ ⟨hx, hb, hml, hown, hts, hG, hn2, d1, fun i hi => hA1 _ (d2 i hi), hA0, hfr, hlo, by omega, by omega⟩ ⟨rfl, rfl, hmc, hms⟩ T'.heap (locs ++ L9) ls hn1 (by rw [e1]; exact g2) ⟨Nat.le_trans hS.1 (by rw [e1]; exact hz), fun q h1 h2 => by rw [e1, hk q (Nat.lt_of_lt_of_le h1 hS.1) (fun z => h2 (hA1 q z))]; exact hS.2.1 q h1 h2, fun q hq => by
      rcases List.mem_append.mp hq with h | h
      · exact hS.2.2 q h
      · exact hA1 _ (hL q h)⟩ (by rw [xL_ad hLc g1']; exact hl)
  rw [xvs_ad hstc g1'] at h9
  obtain ⟨t2, a1, b1⟩ := h9 T' rfl X'
  exact ⟨t2, st9 t2 a1, b1⟩
end XNEW
