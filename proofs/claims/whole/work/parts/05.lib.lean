/-! THE SMALL WORLD: cells by their places; a reference is a place (from 1000 on a String constant, from 2000 on its bytes, 3000 the formatter). -/
abbrev XE : Type := (Nat × Nat × (Nat → Int32)) ⊕ (Nat × List Value)
abbrev XW : Type := List XE
abbrev CX : Type := (Nat → ClassId) × (Nat → Nat → Nat) × (Nat → ClassId) × (Nat → Nat) × (Nat → Nat) × (Nat → Nat) × Nat × Nat
abbrev xCl : List vw_C := [(RX0, TX0, 2), (RX1, TX1, 2), (RX2, TX2, 4), (RX3, TX3, 7), (RX4, TX4, 12)]
def xG0 (cx : CX) : va_G := (cx.1, cx.2.1)
def xcA (cx : CX) (k : Nat) : ClassId := cx.2.2.1 k
def xad (cx : CX) (k : Nat) : Nat := cx.2.2.2.1 k
def xaK (cx : CX) (k : Nat) : Nat := cx.2.2.2.2.1 k
def xaV (cx : CX) (k : Nat) : Nat := cx.2.2.2.2.2.1 k
def xaF (cx : CX) : Nat := cx.2.2.2.2.2.2.1
def xaB (cx : CX) : Nat := cx.2.2.2.2.2.2.2
def xa (cx : CX) (k : Nat) : Nat := if k < 1000 then xad cx k else if k < 2000 then xaK cx (k - 1000) else if k < 3000 then xaV cx (k - 2000) else if k < 4000 then xaF cx else xaB cx
def xv (cx : CX) : Value → Value
  | .ref k => .ref (xa cx k)
  | v => v
theorem xv_cat (cx : CX) (v : Value) : (xv cx v).category = v.category := by cases v <;> rfl
def xe (cx : CX) : XE → va_E
  | .inl a => .inl (xcA cx a.1, a.2.1, .inl a.2.2)
  | .inr b => .inr (b.1, b.2.map (xv cx))
def xw (cx : CX) (w : XW) : va_W := w.mapIdx (fun k e => (xad cx k, xe cx e))
theorem xw_get (cx : CX) (w : XW) (k : Nat) : (xw cx w)[k]? = (w[k]?).map (fun e => (xad cx k, xe cx e)) := by
  unfold xw
  rw [List.getElem?_mapIdx]
theorem xw_at {cx : CX} {w : XW} {k : Nat} {e : XE} (h : w[k]? = some e) : (xw cx w)[k]? = some (xad cx k, xe cx e) := by
  rw [xw_get, h]; rfl
theorem xw_len (cx : CX) (w : XW) : (xw cx w).length = w.length := by
  unfold xw
  rw [List.length_mapIdx]
theorem xw_set (cx : CX) (w : XW) (k : Nat) (e : XE) : (xw cx w).set k (xad cx k, xe cx e) = xw cx (w.set k e) := by
  apply List.ext_getElem?
  intro i
  rw [xw_get, List.getElem?_set, List.getElem?_set, xw_len]
  by_cases h : k = i
  · subst h
    rw [if_pos rfl, if_pos rfl]
    by_cases q : k < w.length
    · rw [if_pos q, if_pos q]; rfl
    · rw [if_neg q, if_neg q]; rfl
  · rw [if_neg h, if_neg h, xw_get]
theorem xa_w {cx : CX} {k : Nat} (h : k < 1000) : xa cx k = xad cx k := by unfold xa; rw [if_pos h]
theorem xa_s {cx : CX} {i : Nat} (h : i < 1000) : xa cx (1000 + i) = xaK cx i := by
  unfold xa
  rw [if_neg (by omega), if_pos (by omega), Nat.add_sub_cancel_left]
theorem xa_b {cx : CX} {i : Nat} (h : i < 1000) : xa cx (2000 + i) = xaV cx i := by
  unfold xa
  rw [if_neg (by omega), if_neg (by omega), if_pos (by omega), Nat.add_sub_cancel_left]
theorem xa_f {cx : CX} : xa cx 3000 = xaF cx := rfl

/-- the String constants: 0=9, 0>0, 000=-9, 000=9, 00=9,  -/
def xSn : List Nat := [3, 3, 6, 5, 4, 0]
def xSb : List (List Int32) := [[48, 61, 57], [48, 62, 48], [48, 48, 48, 61, 45, 57], [48, 48, 48, 61, 57], [48, 48, 61, 57], []]
def xSr : List (Nat × String × Nat) := [(27, "0=9", 0), (29, "0>0", 1), (31, "000=-9", 2), (33, "000=9", 3), (35, "00=9", 4), (37, "", 5)]
def xNs : List (String × Nat × MethodName × String) := [(RX0, 24, yX3_isWithin, "MessageGames"), (RX0, 72, yX3_has, "MessageGames"), (RX2, 78, yX3_has, "MessageGames"), (RX2, 33, yX3_isWithin, "MessageGames"), (RX1, 19, yX3_isWithin, "MessageGames")]
/-- what every method finds: the classes, the nest mates' links, the String constants, two static fields -/
def xG (cx : CX) (A : Nat → Prop) (U : State) : Prop :=
  va_K (xG0 cx) xCl [(xcA cx 0, .int), (xcA cx 1, .boolean)] U ∧ (∀ q ∈ xNs, va_Nw (.methodLinkNest q.1 q.2.1 q.2.2.1 q.2.2.2) U) ∧ vk_S 6 xSn xSb (xaK cx) (xaV cx) A U U.heap ∧ (∀ q ∈ xSr, vk_R RX1 q.1 q.2.1 (xaK cx q.2.2) U) ∧
  va_Z "java/lang/String" "COMPACT_STRINGS" "Z" (.int 1) A U U.heap ∧ (va_Z "jdk/internal/util/Preconditions" "SIOOBE_FORMATTER" "Ljava/util/function/BiFunction;" .null A U U.heap ∨ va_Z "jdk/internal/util/Preconditions" "SIOOBE_FORMATTER" "Ljava/util/function/BiFunction;" (.ref (xaF cx)) A U U.heap)
theorem xG_warm {cx : CX} {A A1 : Nat → Prop} {s U : State} {locs : List Loc} (h : xG cx A s) (hS : va_S A s.heap U.heap locs) (hA : ∀ q, A1 q → A q) (hW : s.WarmedH U.vm) : xG cx A1 U := by
  obtain ⟨h1, h2, h3, h4, h5, h6⟩ := h
  have kz : ∀ {C n d : String} {v : Value}, va_Z C n d v A s s.heap → va_Z C n d v A1 U U.heap := fun z => ((z.kept hS.2.1).moved hW.alike).narrow hA
  refine ⟨h1.moved hW.alike, fun q hq => va_Nw.warmM hW (h2 q hq), ((h3.kept hS.2.1).moved hW.alike).narrow hA, fun q hq => vk_R.warm hW (h4 q hq), kz h5, ?_⟩
  rcases h6 with h6 | h6
  · exact Or.inl (kz h6)
  · exact Or.inr (kz h6)
theorem xG_call {cx : CX} {A : Nat → Prop} {U : State} (g : JFrame) (mk : MethodId) (a : Array Value) (h : xG cx A U) : xG cx A (U.calling g mk a) := by
  obtain ⟨h1, h2, h3, h4, h5, h6⟩ := h
  have hv : U.vm.Alike (U.calling g mk a).vm := Vm.Alike.refl U.vm
  have kz : ∀ {C n d : String} {v : Value}, va_Z C n d v A U U.heap → va_Z C n d v A (U.calling g mk a) (U.calling g mk a).heap := fun z => z.moved hv
  refine ⟨h1.moved hv, fun q hq => va_Nw.same rfl rfl (h2 q hq), h3.moved hv, fun q hq => vk_R.same rfl (h4 q hq), kz h5, ?_⟩
  rcases h6 with h6 | h6
  · exact Or.inl (kz h6)
  · exact Or.inr (kz h6)
/-- a frame's surroundings -/
abbrev KX : Type := Program × Launch × Env × Room × State × MethodId × Array Value × List Frame × Method × Code × (State → Prop) × (Nat → Prop) × Nat × Nat
/-- from this point of a method, with these locals, this stack and this world, the run comes to its end -/
def Wx (K : KX) (cx : CX) (nL n pc : Nat) (L : List (Nat × Value)) (st : List Value) (w : XW) : Prop := match K with
  | (p, l, e, R, s, m, args, below, meth, c, Q, A, cells, slots) => ∀ (H : Heap) (locs : List Loc) (ls : Array Slot), w.length = n → va_P (xG0 cx) xCl (xw cx w) H → va_S A s.heap H locs → lv_has ls nL (L.map (fun q => (q.1, xv cx q.2))) → W p l e R s m args below meth c H locs cells slots Q (F0 m pc ls (st.map (xv cx)))
def XB (K : KX) (cx : CX) (own : String) (bytes : ByteArray) (nL n fr lo : Nat) : Prop := match K with
  | (p, _, _, R, s, m, args, _, _, c, _, A, cells, slots) => p.tables.exec = Jvm.exec ∧ c.code = bytes ∧ c.maxLocals = nL ∧ s.vm.findClass own = some m.cls ∧ (∀ w ∈ xT, w.before args s = true) ∧ xG cx A s ∧ n ≤ 1000 ∧ (∀ i j, i < n → j < n → xad cx i = xad cx j → i = j) ∧ (∀ i, i < n → A (xad cx i)) ∧ (∀ q, s.heap.size ≤ q → A q) ∧ fr ≤ R.frames ∧ lo ≤ R.locals ∧ cells ≤ R.cells ∧ slots ≤ R.slots
def xQ (cx : CX) (r : Option Value) (w : XW) (n : Nat) (A : Nat → Prop) : Array Value → State → Outcome → State → Prop := fun _ st oc t => oc = .returned (r.map (xv cx)) ∧ w.length = n ∧ va_P (xG0 cx) xCl (xw cx w) t.heap ∧ va_F A st t
def XR (K : KX) (cx : CX) (n : Nat) (ret : Option FieldType) (r : Option Value) (w : XW) : Prop := match K with
  | (_, _, _, _, s, _, args, below, meth, _, Q, A, cells, slots) => meth.sig.returnType = ret ∧ meth.locks = false ∧ Q = MQ below (xQ cx r w n A) args s cells slots A
/-- a method's contract: with these arguments in this world it answers r and leaves the world w1 -/
def Ct (y : MethodName) (bytes : ByteArray) (maxL : Nat) (ret : Option FieldType) (fr lo : Nat) (cx : CX) (av : List Value) (w : XW) (r : Option Value) (w1 : XW) : Prop :=
  ∀ (l : Launch) (sz : Nat), Met l y (.code y bytes maxL ret :: xT) ({ frames := fr, cells := 0, slots := 0, locals := lo } : Room) (va_Pc (av.map (xv cx)) (fun U => w.length ≤ 1000 ∧ U.heap.size = sz ∧ xG cx (va_A (xw cx w) sz) U ∧ va_P (xG0 cx) xCl (xw cx w) U.heap ∧ va_D (fun _ => True) (xw cx w))) (xQ cx r w1 w.length (va_A (xw cx w) sz)) 0 0 (va_A (xw cx w) sz)
theorem xD_of {cx : CX} {w : XW} {A : Nat → Prop} (h : va_D A (xw cx w)) : (∀ i j, i < w.length → j < w.length → xad cx i = xad cx j → i = j) ∧ ∀ i, i < w.length → A (xad cx i) := by
  have g : ∀ i, i < w.length → ∃ e, (xw cx w)[i]? = some (xad cx i, e) := fun i hi => ⟨_, xw_at (List.getElem?_eq_getElem hi)⟩
  refine ⟨fun i j hi hj e => ?_, fun i hi => ?_⟩
  · obtain ⟨a, ha⟩ := g i hi
    obtain ⟨b, hb⟩ := g j hj
    exact h.1 i j _ _ ha hb e
  · obtain ⟨a, ha⟩ := g i hi
    exact h.2 i _ ha
theorem xD_to {cx : CX} {w : XW} {A : Nat → Prop} (h1 : ∀ i j, i < w.length → j < w.length → xad cx i = xad cx j → i = j) (h2 : ∀ i, i < w.length → A (xad cx i)) : va_D A (xw cx w) := by
  have g : ∀ (k : Nat) (q : Nat × va_E), (xw cx w)[k]? = some q → k < w.length ∧ q.1 = xad cx k := by
    intro k q hq
    have hk : k < w.length := by rw [← xw_len cx w]; exact (List.getElem?_eq_some_iff.mp hq).1
    rw [xw_at (List.getElem?_eq_getElem hk)] at hq
    exact ⟨hk, by rw [← Option.some.inj hq]⟩
  refine ⟨fun i j p q hp hq e => ?_, fun k q hq => ?_⟩
  · obtain ⟨a1, a2⟩ := g i p hp
    obtain ⟨b1, b2⟩ := g j q hq
    exact h1 i j a1 b1 (by rw [← a2, ← b2, e])
  · obtain ⟨a1, a2⟩ := g k q hq
    rw [a2]; exact h2 k a1
theorem xargs (cx : CX) : ∀ (av : List Value) (i : Nat), lv_args i (av.map (xv cx)) = (lv_args i av).map (fun q => (q.1, xv cx q.2))
  | [], _ => rfl
  | v :: vs, i => by
    show (i, xv cx v) :: lv_args (if (xv cx v).category = 2 then i + 2 else i + 1) (vs.map (xv cx)) = _
    rw [xv_cat, xargs cx vs]
    rfl
theorem xsl (cx : CX) : ∀ (av : List Value), (lg_sl (av.map (xv cx))).length = (lg_sl av).length
  | [] => rfl
  | v :: vs => by
    have h := xsl cx vs
    unfold lg_sl at h ⊢
    simp only [List.map_cons, List.flatMap_cons, List.length_append, xv_cat, h]
    by_cases q : v.category = 2
    · rw [if_pos q, if_pos q]; rfl
    · rw [if_neg q, if_neg q]; rfl
set_option maxHeartbeats 4000000 in
theorem Ct_of {y : MethodName} {bytes : ByteArray} {maxL : Nat} {ret : Option FieldType} {fr lo : Nat} {cx : CX} {av : List Value} {w : XW} {r : Option Value} {w1 : XW} (hy : plainName y.cls = true) (hn : (lg_sl av).length ≤ maxL)
    (body : ∀ K : KX, XB K cx y.cls bytes maxL w.length fr lo → XR K cx w.length ret r w1 → Wx K cx maxL w.length 0 (lv_args 0 av) [] w) : Ct y bytes maxL ret fr lo cx av w r w1 := by
  intro l sz
  refine Met.ofW (cc := bytes) (maxL := maxL) (ret := ret) hy rfl ?_
  intro p e s m args below meth c s₁ B hml hv
  obtain ⟨rfl, h1000, hsz, hG, hP, hD0⟩ := hv
  subst hsz
  have hts := atoms_spec (ws := .code y bytes maxL ret :: xT) B.pre
  have hown : s.vm.findClass y.cls = some m.cls := findClass_of_methodNamed B.named
  obtain ⟨d1, d2⟩ := xD_of (hD0.self (sz := s.heap.size))
  have hl := lv_entry (av.map (xv cx)) (n := maxL) (by rw [xsl]; exact hn)
  rw [lg_entry_eq]
  rw [xargs] at hl
  exact body (p, l, e, { frames := fr, cells := 0, slots := 0, locals := lo }, s, m, (av.map (xv cx)).toArray, below, meth, c, _, va_A (xw cx w) s.heap.size, 0, 0) ⟨B.exec, B.bytes, hml, hown, fun w hw => hts w (List.mem_cons_of_mem _ hw), hG, h1000, d1, d2, fun q h => Or.inr h, Nat.le_refl _, Nat.le_refl _, Nat.le_refl _, Nat.le_refl _⟩ ⟨B.returns, B.notSynchronized, rfl⟩ s.heap [] _ rfl hP va_S.rf hl
/-! what the rows of a run are made of -/
theorem xbind {α β : Type} {x : Option α} {f : α → Option β} {R : β} (h : x.bind f = some R) : ∃ a, x = some a ∧ f a = some R := by
  cases x with
  | none => cases h
  | some a => exact ⟨a, rfl, h⟩
theorem xite {α : Type} {c : Prop} [Decidable c] {a b : Option α} {R : α} (h : (if c then a else b) = some R) : (c ∧ a = some R) ∨ (¬ c ∧ b = some R) := by
  by_cases q : c
  · rw [if_pos q] at h; exact Or.inl ⟨q, h⟩
  · rw [if_neg q] at h; exact Or.inr ⟨q, h⟩
/-- an int field, a reference field, an int field written, a boolean field written -/
def xgI (w : XW) (a c k : Nat) : Option Int32 := match w[a]? with
  | some (.inr (c1, fs)) => if c1 = c then (match fs[k]? with
    | some (.int x) => some x
    | _ => none) else none
  | _ => none
def xgR (w : XW) (a c k : Nat) : Option Nat := match w[a]? with
  | some (.inr (c1, fs)) => if c1 = c then (match fs[k]? with
    | some (.ref x) => some x
    | _ => none) else none
  | _ => none
def xpI (w : XW) (a c k : Nat) (x : Int32) : Option XW := match w[a]? with
  | some (.inr (c1, fs)) => if c1 = c ∧ k < fs.length then some (w.set a (.inr (c, fs.set k (.int x)))) else none
  | _ => none
def xpZ (w : XW) (a c k : Nat) (x : Int32) : Option XW := if x = 0 ∨ x = 1 then xpI w a c k x else none
/-- an int of an array, a boolean of one, both written; a length -/
def xaI (w : XW) (a : Nat) (i : Int32) : Option Int32 := match w[a]? with
  | some (.inl (0, n, f)) => if i < 0 ∨ n ≤ i.toNatClampNeg then none else some (f i.toNatClampNeg)
  | _ => none
def xaZ (w : XW) (a : Nat) (i : Int32) : Option Int32 := match w[a]? with
  | some (.inl (1, n, f)) => if i < 0 ∨ n ≤ i.toNatClampNeg then none else some (f i.toNatClampNeg)
  | _ => none
/-- what an array of n cells holds, nothing beyond -/
def xct (n : Nat) (f : Nat → Int32) : Nat → Int32 := fun k => if k < n then f k else 0
def xsI (w : XW) (a : Nat) (i x : Int32) : Option XW := match w[a]? with
  | some (.inl (0, n, f)) => if i < 0 ∨ n ≤ i.toNatClampNeg then none else some (w.set a (.inl (0, n, xct n (upd f i.toNatClampNeg x))))
  | _ => none
def xsZ (w : XW) (a : Nat) (i x : Int32) : Option XW := match w[a]? with
  | some (.inl (1, n, f)) => if i < 0 ∨ n ≤ i.toNatClampNeg ∨ ¬ (x = 0 ∨ x = 1) then none else some (w.set a (.inl (1, n, xct n (upd f i.toNatClampNeg x))))
  | _ => none
def xaL (w : XW) (a : Nat) : Option Int32 := match w[a]? with
  | some (.inl (0, n, _)) => some (Int32.ofNat n)
  | some (.inl (1, n, _)) => some (Int32.ofNat n)
  | _ => none
/-- is it an object of the class -/
def xis (w : XW) (a c : Nat) : Bool := match w[a]? with
  | some (.inr (c1, _)) => c1 == c
  | _ => false
/-- System.arraycopy of ints -/
def xcp (w : XW) (a : Nat) (sp : Int32) (b : Nat) (dp k : Int32) : Option XW := match w[a]?, w[b]? with
  | some (.inl (0, n0, f)), some (.inl (0, n1, g)) => if sp < 0 ∨ dp < 0 ∨ k < 0 ∨ n0 < sp.toNatClampNeg + k.toNatClampNeg ∨ n1 < dp.toNatClampNeg + k.toNatClampNeg then none else some (w.set b (.inl (0, n1, xct n1 (va_cpy f g sp.toNatClampNeg dp.toNatClampNeg k.toNatClampNeg))))
  | _, _ => none

section XROWS
variable {K : KX} {cx : CX} {own : String} {bytes : ByteArray} {nL n fr lo pc : Nat} {L : List (Nat × Value)} {st : List Value} {w : XW}
theorem x_sub {L1 : List (Nat × Value)} (ks : List Nat) (h : lv_pick L ks = L1) (k : Wx K cx nL n pc L1 st w) : Wx K cx nL n pc L st w := by
  obtain ⟨p, l, e, R, s, m, args, below, meth, c, Q, A, cells, slots⟩ := K
  intro H locs ls hn hP hS hl
  refine k H locs ls hn hP hS (lv_sub hl ks ?_)
  rw [← h]
  unfold lv_pick
  rw [List.map_filterMap]
  congr 1
  funext i
  rw [List.getElem?_map]
theorem x_fil (L : List (Nat × Value)) (P : Nat → Nat → Bool) : (L.map (fun q => (q.1, xv cx q.2))).filter (fun q => P q.1 q.2.category) = (L.filter (fun q => P q.1 q.2.category)).map (fun q => (q.1, xv cx q.2)) := by
  rw [List.filter_map]
  congr 1
  apply List.filter_congr
  intro q _
  simp only [Function.comp, xv_cat]

theorem x_iconst {v : Int32} {z : Int} (B : XB K cx own bytes nL n fr lo) (hd : decode bytes pc = .ok (.iconst z, 1)) (hv : Int32.ofInt z = v) (k : Wx K cx nL n (pc + 1) L (.int v :: st) w) : Wx K cx nL n pc L st w := by
  obtain ⟨p, l, e, R, s, m, args, below, meth, c, Q, A, cells, slots⟩ := K
  obtain ⟨hx, hb, hml, hown, hts, hG, hn0, hi, hA, hA0, hfr, hlo, hce, hsl⟩ := B
  intro H locs ls hn hP hS hl
  exact lv_iconst hx hb hd hv (k H locs ls hn hP hS hl)
theorem x_bipush {v : Int32} {z : Int} (B : XB K cx own bytes nL n fr lo) (hd : decode bytes pc = .ok (.bipush z, 2)) (hv : (Int8.ofInt z).toInt32 = v) (k : Wx K cx nL n (pc + 2) L (.int v :: st) w) : Wx K cx nL n pc L st w := by
  obtain ⟨p, l, e, R, s, m, args, below, meth, c, Q, A, cells, slots⟩ := K
  obtain ⟨hx, hb, hml, hown, hts, hG, hn0, hi, hA, hA0, hfr, hlo, hce, hsl⟩ := B
  intro H locs ls hn hP hS hl
  exact lv_bipush hx hb hd hv (k H locs ls hn hP hS hl)
theorem x_sipush {v : Int32} {z : Int} (B : XB K cx own bytes nL n fr lo) (hd : decode bytes pc = .ok (.sipush z, 3)) (hv : (Int16.ofInt z).toInt32 = v) (k : Wx K cx nL n (pc + 3) L (.int v :: st) w) : Wx K cx nL n pc L st w := by
  obtain ⟨p, l, e, R, s, m, args, below, meth, c, Q, A, cells, slots⟩ := K
  obtain ⟨hx, hb, hml, hown, hts, hG, hn0, hi, hA, hA0, hfr, hlo, hce, hsl⟩ := B
  intro H locs ls hn hP hS hl
  exact lv_sipush hx hb hd hv (k H locs ls hn hP hS hl)
theorem x_lconst {v : Int64} {z : Fin 2} (B : XB K cx own bytes nL n fr lo) (hd : decode bytes pc = .ok (.lconst z, 1)) (hv : Int64.ofNat (z : Nat) = v) (k : Wx K cx nL n (pc + 1) L (.long v :: st) w) : Wx K cx nL n pc L st w := by
  obtain ⟨p, l, e, R, s, m, args, below, meth, c, Q, A, cells, slots⟩ := K
  obtain ⟨hx, hb, hml, hown, hts, hG, hn0, hi, hA, hA0, hfr, hlo, hce, hsl⟩ := B
  intro H locs ls hn hP hS hl
  exact lv_lconst hx hb hd hv (k H locs ls hn hP hS hl)
theorem x_iadd {x y : Int32} (B : XB K cx own bytes nL n fr lo) (hd : decode bytes pc = .ok (.iadd, 1))  (k : Wx K cx nL n (pc + 1) L (.int (x + y) :: st) w) : Wx K cx nL n pc L (.int y :: .int x :: st) w := by
  obtain ⟨p, l, e, R, s, m, args, below, meth, c, Q, A, cells, slots⟩ := K
  obtain ⟨hx, hb, hml, hown, hts, hG, hn0, hi, hA, hA0, hfr, hlo, hce, hsl⟩ := B
  intro H locs ls hn hP hS hl
  exact lv_iadd hx hb hd  (k H locs ls hn hP hS hl)
theorem x_isub {x y : Int32} (B : XB K cx own bytes nL n fr lo) (hd : decode bytes pc = .ok (.isub, 1))  (k : Wx K cx nL n (pc + 1) L (.int (x - y) :: st) w) : Wx K cx nL n pc L (.int y :: .int x :: st) w := by
  obtain ⟨p, l, e, R, s, m, args, below, meth, c, Q, A, cells, slots⟩ := K
  obtain ⟨hx, hb, hml, hown, hts, hG, hn0, hi, hA, hA0, hfr, hlo, hce, hsl⟩ := B
  intro H locs ls hn hP hS hl
  exact lv_isub hx hb hd  (k H locs ls hn hP hS hl)
theorem x_imul {x y : Int32} (B : XB K cx own bytes nL n fr lo) (hd : decode bytes pc = .ok (.imul, 1))  (k : Wx K cx nL n (pc + 1) L (.int (x * y) :: st) w) : Wx K cx nL n pc L (.int y :: .int x :: st) w := by
  obtain ⟨p, l, e, R, s, m, args, below, meth, c, Q, A, cells, slots⟩ := K
  obtain ⟨hx, hb, hml, hown, hts, hG, hn0, hi, hA, hA0, hfr, hlo, hce, hsl⟩ := B
  intro H locs ls hn hP hS hl
  exact lv_imul hx hb hd  (k H locs ls hn hP hS hl)
theorem x_iand {x y : Int32} (B : XB K cx own bytes nL n fr lo) (hd : decode bytes pc = .ok (.iand, 1))  (k : Wx K cx nL n (pc + 1) L (.int (x &&& y) :: st) w) : Wx K cx nL n pc L (.int y :: .int x :: st) w := by
  obtain ⟨p, l, e, R, s, m, args, below, meth, c, Q, A, cells, slots⟩ := K
  obtain ⟨hx, hb, hml, hown, hts, hG, hn0, hi, hA, hA0, hfr, hlo, hce, hsl⟩ := B
  intro H locs ls hn hP hS hl
  exact lv_iand hx hb hd  (k H locs ls hn hP hS hl)
theorem x_ior {x y : Int32} (B : XB K cx own bytes nL n fr lo) (hd : decode bytes pc = .ok (.ior, 1))  (k : Wx K cx nL n (pc + 1) L (.int (x ||| y) :: st) w) : Wx K cx nL n pc L (.int y :: .int x :: st) w := by
  obtain ⟨p, l, e, R, s, m, args, below, meth, c, Q, A, cells, slots⟩ := K
  obtain ⟨hx, hb, hml, hown, hts, hG, hn0, hi, hA, hA0, hfr, hlo, hce, hsl⟩ := B
  intro H locs ls hn hP hS hl
  exact lv_ior hx hb hd  (k H locs ls hn hP hS hl)
theorem x_ixor {x y : Int32} (B : XB K cx own bytes nL n fr lo) (hd : decode bytes pc = .ok (.ixor, 1))  (k : Wx K cx nL n (pc + 1) L (.int (x ^^^ y) :: st) w) : Wx K cx nL n pc L (.int y :: .int x :: st) w := by
  obtain ⟨p, l, e, R, s, m, args, below, meth, c, Q, A, cells, slots⟩ := K
  obtain ⟨hx, hb, hml, hown, hts, hG, hn0, hi, hA, hA0, hfr, hlo, hce, hsl⟩ := B
  intro H locs ls hn hP hS hl
  exact lv_ixor hx hb hd  (k H locs ls hn hP hS hl)
theorem x_ishl {x y : Int32} (B : XB K cx own bytes nL n fr lo) (hd : decode bytes pc = .ok (.ishl, 1))  (k : Wx K cx nL n (pc + 1) L (.int (x <<< (y &&& 31)) :: st) w) : Wx K cx nL n pc L (.int y :: .int x :: st) w := by
  obtain ⟨p, l, e, R, s, m, args, below, meth, c, Q, A, cells, slots⟩ := K
  obtain ⟨hx, hb, hml, hown, hts, hG, hn0, hi, hA, hA0, hfr, hlo, hce, hsl⟩ := B
  intro H locs ls hn hP hS hl
  exact lv_ishl hx hb hd  (k H locs ls hn hP hS hl)
theorem x_ishr {x y : Int32} (B : XB K cx own bytes nL n fr lo) (hd : decode bytes pc = .ok (.ishr, 1))  (k : Wx K cx nL n (pc + 1) L (.int (x >>> (y &&& 31)) :: st) w) : Wx K cx nL n pc L (.int y :: .int x :: st) w := by
  obtain ⟨p, l, e, R, s, m, args, below, meth, c, Q, A, cells, slots⟩ := K
  obtain ⟨hx, hb, hml, hown, hts, hG, hn0, hi, hA, hA0, hfr, hlo, hce, hsl⟩ := B
  intro H locs ls hn hP hS hl
  exact lv_ishr hx hb hd  (k H locs ls hn hP hS hl)
theorem x_idiv {x y : Int32} (B : XB K cx own bytes nL n fr lo) (hd : decode bytes pc = .ok (.idiv, 1)) (h0 : ¬ y = 0) (k : Wx K cx nL n (pc + 1) L (.int (x / y) :: st) w) : Wx K cx nL n pc L (.int y :: .int x :: st) w := by
  obtain ⟨p, l, e, R, s, m, args, below, meth, c, Q, A, cells, slots⟩ := K
  obtain ⟨hx, hb, hml, hown, hts, hG, hn0, hi, hA, hA0, hfr, hlo, hce, hsl⟩ := B
  intro H locs ls hn hP hS hl
  exact lv_idiv hx hb hd h0 (k H locs ls hn hP hS hl)
theorem x_irem {x y : Int32} (B : XB K cx own bytes nL n fr lo) (hd : decode bytes pc = .ok (.irem, 1)) (h0 : ¬ y = 0) (k : Wx K cx nL n (pc + 1) L (.int (x - x / y * y) :: st) w) : Wx K cx nL n pc L (.int y :: .int x :: st) w := by
  obtain ⟨p, l, e, R, s, m, args, below, meth, c, Q, A, cells, slots⟩ := K
  obtain ⟨hx, hb, hml, hown, hts, hG, hn0, hi, hA, hA0, hfr, hlo, hce, hsl⟩ := B
  intro H locs ls hn hP hS hl
  exact lv_irem hx hb hd h0 (k H locs ls hn hP hS hl)
theorem x_ineg {x : Int32} (B : XB K cx own bytes nL n fr lo) (hd : decode bytes pc = .ok (.ineg, 1))  (k : Wx K cx nL n (pc + 1) L (.int (-x) :: st) w) : Wx K cx nL n pc L (.int x :: st) w := by
  obtain ⟨p, l, e, R, s, m, args, below, meth, c, Q, A, cells, slots⟩ := K
  obtain ⟨hx, hb, hml, hown, hts, hG, hn0, hi, hA, hA0, hfr, hlo, hce, hsl⟩ := B
  intro H locs ls hn hP hS hl
  exact lv_ineg hx hb hd  (k H locs ls hn hP hS hl)
theorem x_iushr {x y : Int32} (B : XB K cx own bytes nL n fr lo) (hd : decode bytes pc = .ok (.iushr, 1))  (k : Wx K cx nL n (pc + 1) L (.int ((x.toUInt32 >>> (y.toUInt32 &&& Int32.toUInt32 31)).toInt32) :: st) w) : Wx K cx nL n pc L (.int y :: .int x :: st) w := by
  obtain ⟨p, l, e, R, s, m, args, below, meth, c, Q, A, cells, slots⟩ := K
  obtain ⟨hx, hb, hml, hown, hts, hG, hn0, hi, hA, hA0, hfr, hlo, hce, hsl⟩ := B
  intro H locs ls hn hP hS hl
  exact lv_iushr hx hb hd rfl (k H locs ls hn hP hS hl)
theorem x_i2l {x : Int32} (B : XB K cx own bytes nL n fr lo) (hd : decode bytes pc = .ok (.i2l, 1))  (k : Wx K cx nL n (pc + 1) L (.long x.toInt64 :: st) w) : Wx K cx nL n pc L (.int x :: st) w := by
  obtain ⟨p, l, e, R, s, m, args, below, meth, c, Q, A, cells, slots⟩ := K
  obtain ⟨hx, hb, hml, hown, hts, hG, hn0, hi, hA, hA0, hfr, hlo, hce, hsl⟩ := B
  intro H locs ls hn hP hS hl
  exact lv_i2l hx hb hd rfl (k H locs ls hn hP hS hl)
theorem x_l2i {x : Int64} (B : XB K cx own bytes nL n fr lo) (hd : decode bytes pc = .ok (.l2i, 1))  (k : Wx K cx nL n (pc + 1) L (.int x.toInt32 :: st) w) : Wx K cx nL n pc L (.long x :: st) w := by
  obtain ⟨p, l, e, R, s, m, args, below, meth, c, Q, A, cells, slots⟩ := K
  obtain ⟨hx, hb, hml, hown, hts, hG, hn0, hi, hA, hA0, hfr, hlo, hce, hsl⟩ := B
  intro H locs ls hn hP hS hl
  exact lv_l2i hx hb hd rfl (k H locs ls hn hP hS hl)
theorem x_i2c {x : Int32} (B : XB K cx own bytes nL n fr lo) (hd : decode bytes pc = .ok (.i2c, 1))  (k : Wx K cx nL n (pc + 1) L (.int (x.toUInt32 % 65536).toInt32 :: st) w) : Wx K cx nL n pc L (.int x :: st) w := by
  obtain ⟨p, l, e, R, s, m, args, below, meth, c, Q, A, cells, slots⟩ := K
  obtain ⟨hx, hb, hml, hown, hts, hG, hn0, hi, hA, hA0, hfr, hlo, hce, hsl⟩ := B
  intro H locs ls hn hP hS hl
  exact lv_i2c hx hb hd rfl (k H locs ls hn hP hS hl)
theorem x_ladd {x y : Int64} (B : XB K cx own bytes nL n fr lo) (hd : decode bytes pc = .ok (.ladd, 1))  (k : Wx K cx nL n (pc + 1) L (.long (x + y) :: st) w) : Wx K cx nL n pc L (.long y :: .long x :: st) w := by
  obtain ⟨p, l, e, R, s, m, args, below, meth, c, Q, A, cells, slots⟩ := K
  obtain ⟨hx, hb, hml, hown, hts, hG, hn0, hi, hA, hA0, hfr, hlo, hce, hsl⟩ := B
  intro H locs ls hn hP hS hl
  exact lv_ladd hx hb hd  (k H locs ls hn hP hS hl)
theorem x_land {x y : Int64} (B : XB K cx own bytes nL n fr lo) (hd : decode bytes pc = .ok (.land, 1))  (k : Wx K cx nL n (pc + 1) L (.long (x &&& y) :: st) w) : Wx K cx nL n pc L (.long y :: .long x :: st) w := by
  obtain ⟨p, l, e, R, s, m, args, below, meth, c, Q, A, cells, slots⟩ := K
  obtain ⟨hx, hb, hml, hown, hts, hG, hn0, hi, hA, hA0, hfr, hlo, hce, hsl⟩ := B
  intro H locs ls hn hP hS hl
  exact lv_land hx hb hd  (k H locs ls hn hP hS hl)
theorem x_lor {x y : Int64} (B : XB K cx own bytes nL n fr lo) (hd : decode bytes pc = .ok (.lor, 1))  (k : Wx K cx nL n (pc + 1) L (.long (x ||| y) :: st) w) : Wx K cx nL n pc L (.long y :: .long x :: st) w := by
  obtain ⟨p, l, e, R, s, m, args, below, meth, c, Q, A, cells, slots⟩ := K
  obtain ⟨hx, hb, hml, hown, hts, hG, hn0, hi, hA, hA0, hfr, hlo, hce, hsl⟩ := B
  intro H locs ls hn hP hS hl
  exact lv_lor hx hb hd  (k H locs ls hn hP hS hl)
theorem x_lushr {x : Int64} {y : Int32} (B : XB K cx own bytes nL n fr lo) (hd : decode bytes pc = .ok (.lushr, 1))  (k : Wx K cx nL n (pc + 1) L (.long ((x.toUInt64 >>> (y.toInt64.toUInt64 &&& Int64.toUInt64 63)).toInt64) :: st) w) : Wx K cx nL n pc L (.int y :: .long x :: st) w := by
  obtain ⟨p, l, e, R, s, m, args, below, meth, c, Q, A, cells, slots⟩ := K
  obtain ⟨hx, hb, hml, hown, hts, hG, hn0, hi, hA, hA0, hfr, hlo, hce, hsl⟩ := B
  intro H locs ls hn hP hS hl
  exact lv_lushr hx hb hd rfl (k H locs ls hn hP hS hl)
theorem x_lshl {x : Int64} {y : Int32} (B : XB K cx own bytes nL n fr lo) (hd : decode bytes pc = .ok (.lshl, 1))  (k : Wx K cx nL n (pc + 1) L (.long (x <<< (y.toInt64 &&& 63)) :: st) w) : Wx K cx nL n pc L (.int y :: .long x :: st) w := by
  obtain ⟨p, l, e, R, s, m, args, below, meth, c, Q, A, cells, slots⟩ := K
  obtain ⟨hx, hb, hml, hown, hts, hG, hn0, hi, hA, hA0, hfr, hlo, hce, hsl⟩ := B
  intro H locs ls hn hP hS hl
  exact lv_lshl hx hb hd rfl (k H locs ls hn hP hS hl)
theorem x_lshr {x : Int64} {y : Int32} (B : XB K cx own bytes nL n fr lo) (hd : decode bytes pc = .ok (.lshr, 1))  (k : Wx K cx nL n (pc + 1) L (.long (x >>> (y.toInt64 &&& 63)) :: st) w) : Wx K cx nL n pc L (.int y :: .long x :: st) w := by
  obtain ⟨p, l, e, R, s, m, args, below, meth, c, Q, A, cells, slots⟩ := K
  obtain ⟨hx, hb, hml, hown, hts, hG, hn0, hi, hA, hA0, hfr, hlo, hce, hsl⟩ := B
  intro H locs ls hn hP hS hl
  exact lv_lshr hx hb hd rfl (k H locs ls hn hP hS hl)
theorem x_lcmp {x y : Int64} (B : XB K cx own bytes nL n fr lo) (hd : decode bytes pc = .ok (.lcmp, 1)) (k : Wx K cx nL n (pc + 1) L (.int (lg_cmp x y) :: st) w) : Wx K cx nL n pc L (.long y :: .long x :: st) w := by
  obtain ⟨p, l, e, R, s, m, args, below, meth, c, Q, A, cells, slots⟩ := K
  obtain ⟨hx, hb, hml, hown, hts, hG, hn0, hi, hA, hA0, hfr, hlo, hce, hsl⟩ := B
  intro H locs ls hn hP hS hl
  exact W.lcmp hx hb hd (k H locs ls hn hP hS hl)
theorem x_dup {v : Value} (B : XB K cx own bytes nL n fr lo) (hd : decode bytes pc = .ok (.dup, 1)) (hv : v.category = 1) (k : Wx K cx nL n (pc + 1) L (v :: v :: st) w) : Wx K cx nL n pc L (v :: st) w := by
  obtain ⟨p, l, e, R, s, m, args, below, meth, c, Q, A, cells, slots⟩ := K
  obtain ⟨hx, hb, hml, hown, hts, hG, hn0, hi, hA, hA0, hfr, hlo, hce, hsl⟩ := B
  intro H locs ls hn hP hS hl
  exact lv_dup hx hb hd (by rw [xv_cat]; exact hv) (k H locs ls hn hP hS hl)
theorem x_dup2 {v u : Value} (B : XB K cx own bytes nL n fr lo) (hd : decode bytes pc = .ok (.dup2, 1)) (hv : v.category = 1) (hu : u.category = 1) (k : Wx K cx nL n (pc + 1) L (v :: u :: v :: u :: st) w) : Wx K cx nL n pc L (v :: u :: st) w := by
  obtain ⟨p, l, e, R, s, m, args, below, meth, c, Q, A, cells, slots⟩ := K
  obtain ⟨hx, hb, hml, hown, hts, hG, hn0, hi, hA, hA0, hfr, hlo, hce, hsl⟩ := B
  intro H locs ls hn hP hS hl
  exact lv_dup2_11 hx hb hd (by rw [xv_cat]; exact hv) (by rw [xv_cat]; exact hu) (k H locs ls hn hP hS hl)
theorem x_pop {v : Value} (B : XB K cx own bytes nL n fr lo) (hd : decode bytes pc = .ok (.pop, 1)) (hv : v.category = 1) (k : Wx K cx nL n (pc + 1) L st w) : Wx K cx nL n pc L (v :: st) w := by
  obtain ⟨p, l, e, R, s, m, args, below, meth, c, Q, A, cells, slots⟩ := K
  obtain ⟨hx, hb, hml, hown, hts, hG, hn0, hi, hA, hA0, hfr, hlo, hce, hsl⟩ := B
  intro H locs ls hn hP hS hl
  exact lv_pop hx hb hd (by rw [xv_cat]; exact hv) (k H locs ls hn hP hS hl)
theorem x_goto {off : Int} {tgt : Nat} (B : XB K cx own bytes nL n fr lo) (hd : decode bytes pc = .ok (.goto off, 3)) (ht : (pc : Int) + off = (tgt : Int)) (k : Wx K cx nL n tgt L st w) : Wx K cx nL n pc L st w := by
  obtain ⟨p, l, e, R, s, m, args, below, meth, c, Q, A, cells, slots⟩ := K
  obtain ⟨hx, hb, hml, hown, hts, hG, hn0, hi, hA, hA0, hfr, hlo, hce, hsl⟩ := B
  intro H locs ls hn hP hS hl
  exact lv_goto hx hb hd ht (k H locs ls hn hP hS hl)
theorem x_iload_n {z : Fin 4} {i : Nat} {x : Int32} (B : XB K cx own bytes nL n fr lo) (j : Nat) (hd : decode bytes pc = .ok (.iload_n z, 1)) (hi9 : (z : Nat) = i) (hj : L[j]? = some (i, .int x)) (k : Wx K cx nL n (pc + 1) L (.int x :: st) w) : Wx K cx nL n pc L st w := by
  obtain ⟨p, l, e, R, s, m, args, below, meth, c, Q, A, cells, slots⟩ := K
  obtain ⟨hx, hb, hml, hown, hts, hG, hn0, hi, hA, hA0, hfr, hlo, hce, hsl⟩ := B
  intro H locs ls hn hP hS hl
  exact lv_iload_n hx hb hd hi9 (lv_at hl j (by rw [List.getElem?_map, hj]; rfl)) (k H locs ls hn hP hS hl)
theorem x_iload {i : Nat} {x : Int32} (B : XB K cx own bytes nL n fr lo) (j : Nat) (hd : decode bytes pc = .ok (.iload i, 2)) (hj : L[j]? = some (i, .int x)) (k : Wx K cx nL n (pc + 2) L (.int x :: st) w) : Wx K cx nL n pc L st w := by
  obtain ⟨p, l, e, R, s, m, args, below, meth, c, Q, A, cells, slots⟩ := K
  obtain ⟨hx, hb, hml, hown, hts, hG, hn0, hi, hA, hA0, hfr, hlo, hce, hsl⟩ := B
  intro H locs ls hn hP hS hl
  exact lv_iload hx hb hd (lv_at hl j (by rw [List.getElem?_map, hj]; rfl)) (k H locs ls hn hP hS hl)
theorem x_lload_n {z : Fin 4} {i : Nat} {x : Int64} (B : XB K cx own bytes nL n fr lo) (j : Nat) (hd : decode bytes pc = .ok (.lload_n z, 1)) (hi9 : (z : Nat) = i) (hj : L[j]? = some (i, .long x)) (k : Wx K cx nL n (pc + 1) L (.long x :: st) w) : Wx K cx nL n pc L st w := by
  obtain ⟨p, l, e, R, s, m, args, below, meth, c, Q, A, cells, slots⟩ := K
  obtain ⟨hx, hb, hml, hown, hts, hG, hn0, hi, hA, hA0, hfr, hlo, hce, hsl⟩ := B
  intro H locs ls hn hP hS hl
  exact lv_lload_n hx hb hd hi9 (lv_at hl j (by rw [List.getElem?_map, hj]; rfl)) (k H locs ls hn hP hS hl)
theorem x_lload {i : Nat} {x : Int64} (B : XB K cx own bytes nL n fr lo) (j : Nat) (hd : decode bytes pc = .ok (.lload i, 2)) (hj : L[j]? = some (i, .long x)) (k : Wx K cx nL n (pc + 2) L (.long x :: st) w) : Wx K cx nL n pc L st w := by
  obtain ⟨p, l, e, R, s, m, args, below, meth, c, Q, A, cells, slots⟩ := K
  obtain ⟨hx, hb, hml, hown, hts, hG, hn0, hi, hA, hA0, hfr, hlo, hce, hsl⟩ := B
  intro H locs ls hn hP hS hl
  exact lv_lload hx hb hd (lv_at hl j (by rw [List.getElem?_map, hj]; rfl)) (k H locs ls hn hP hS hl)
theorem x_aload_n {z : Fin 4} {i x : Nat} (B : XB K cx own bytes nL n fr lo) (j : Nat) (hd : decode bytes pc = .ok (.aload_n z, 1)) (hi9 : (z : Nat) = i) (hj : L[j]? = some (i, .ref x)) (k : Wx K cx nL n (pc + 1) L (.ref x :: st) w) : Wx K cx nL n pc L st w := by
  obtain ⟨p, l, e, R, s, m, args, below, meth, c, Q, A, cells, slots⟩ := K
  obtain ⟨hx, hb, hml, hown, hts, hG, hn0, hi, hA, hA0, hfr, hlo, hce, hsl⟩ := B
  intro H locs ls hn hP hS hl
  exact lv_aload_n hx hb hd hi9 (lv_at hl j (by rw [List.getElem?_map, hj]; rfl)) (k H locs ls hn hP hS hl)
theorem x_istore_n {z : Fin 4} {i : Nat} {x : Int32} {L1 : List (Nat × Value)} (B : XB K cx own bytes nL n fr lo) (hd : decode bytes pc = .ok (.istore_n z, 1)) (hi9 : (z : Nat) = i) (hi8 : i < nL) (hL : (i, Value.int x) :: L.filter (fun q => !(q.1 == i) && !(q.1 + 1 == i && q.2.category == 2)) = L1) (k : Wx K cx nL n (pc + 1) L1 st w) : Wx K cx nL n pc L (.int x :: st) w := by
  obtain ⟨p, l, e, R, s, m, args, below, meth, c, Q, A, cells, slots⟩ := K
  obtain ⟨hx, hb, hml, hown, hts, hG, hn0, hi, hA, hA0, hfr, hlo, hce, hsl⟩ := B
  intro H locs ls hn hP hS hl
  exact lv_istore_n (lv' := L1.map (fun q => (q.1, xv cx q.2))) hx hb hd hi9 hl hi8 (by rw [← hL, List.map_cons, ← x_fil (cx := cx) L (fun a b => !(a == i) && !(a + 1 == i && b == 2))]; rfl) (fun ls1 hl1 => k H locs ls1 hn hP hS hl1)
theorem x_istore {i : Nat} {x : Int32} {L1 : List (Nat × Value)} (B : XB K cx own bytes nL n fr lo) (hd : decode bytes pc = .ok (.istore i, 2)) (hi8 : i < nL) (hL : (i, Value.int x) :: L.filter (fun q => !(q.1 == i) && !(q.1 + 1 == i && q.2.category == 2)) = L1) (k : Wx K cx nL n (pc + 2) L1 st w) : Wx K cx nL n pc L (.int x :: st) w := by
  obtain ⟨p, l, e, R, s, m, args, below, meth, c, Q, A, cells, slots⟩ := K
  obtain ⟨hx, hb, hml, hown, hts, hG, hn0, hi, hA, hA0, hfr, hlo, hce, hsl⟩ := B
  intro H locs ls hn hP hS hl
  exact lv_istore (lv' := L1.map (fun q => (q.1, xv cx q.2))) hx hb hd hl hi8 (by rw [← hL, List.map_cons, ← x_fil (cx := cx) L (fun a b => !(a == i) && !(a + 1 == i && b == 2))]; rfl) (fun ls1 hl1 => k H locs ls1 hn hP hS hl1)
theorem x_astore_n {z : Fin 4} {i : Nat} {x : Nat} {L1 : List (Nat × Value)} (B : XB K cx own bytes nL n fr lo) (hd : decode bytes pc = .ok (.astore_n z, 1)) (hi9 : (z : Nat) = i) (hi8 : i < nL) (hL : (i, Value.ref x) :: L.filter (fun q => !(q.1 == i) && !(q.1 + 1 == i && q.2.category == 2)) = L1) (k : Wx K cx nL n (pc + 1) L1 st w) : Wx K cx nL n pc L (.ref x :: st) w := by
  obtain ⟨p, l, e, R, s, m, args, below, meth, c, Q, A, cells, slots⟩ := K
  obtain ⟨hx, hb, hml, hown, hts, hG, hn0, hi, hA, hA0, hfr, hlo, hce, hsl⟩ := B
  intro H locs ls hn hP hS hl
  exact lv_astore_n (lv' := L1.map (fun q => (q.1, xv cx q.2))) hx hb hd hi9 hl hi8 (by rw [← hL, List.map_cons, ← x_fil (cx := cx) L (fun a b => !(a == i) && !(a + 1 == i && b == 2))]; rfl) (fun ls1 hl1 => k H locs ls1 hn hP hS hl1)
theorem x_iinc {i : Nat} {z : Int} {x v : Int32} {L1 : List (Nat × Value)} (B : XB K cx own bytes nL n fr lo) (j : Nat) (hd : decode bytes pc = .ok (.iinc i z, 3)) (hj : L[j]? = some (i, .int x)) (hv : x + Int32.ofInt z = v) (hi8 : i < nL) (hL : (i, Value.int v) :: L.filter (fun q => !(q.1 == i) && !(q.1 + 1 == i && q.2.category == 2)) = L1) (k : Wx K cx nL n (pc + 3) L1 st w) : Wx K cx nL n pc L st w := by
  obtain ⟨p, l, e, R, s, m, args, below, meth, c, Q, A, cells, slots⟩ := K
  obtain ⟨hx, hb, hml, hown, hts, hG, hn0, hi, hA, hA0, hfr, hlo, hce, hsl⟩ := B
  intro H locs ls hn hP hS hl
  exact lv_iinc (lv' := L1.map (fun q => (q.1, xv cx q.2))) hx hb hd hl (k := j) (by rw [List.getElem?_map, hj]; rfl) hv hi8 (by rw [← hL, List.map_cons, ← x_fil (cx := cx) L (fun a b => !(a == i) && !(a + 1 == i && b == 2))]; rfl) (fun ls1 hl1 => k H locs ls1 hn hP hS hl1)
theorem x_if_eq_t {x : Int32} {off : Int} {tgt : Nat} (B : XB K cx own bytes nL n fr lo) (hd : decode bytes pc = .ok (.ifCond .eq off, 3)) (ht : (pc : Int) + off = (tgt : Int)) (hc : x = 0) (k : Wx K cx nL n tgt L st w) : Wx K cx nL n pc L (.int x :: st) w := by
  obtain ⟨p, l, e, R, s, m, args, below, meth, c, Q, A, cells, slots⟩ := K
  obtain ⟨hx, hb, hml, hown, hts, hG, hn0, hi, hA, hA0, hfr, hlo, hce, hsl⟩ := B
  intro H locs ls hn hP hS hl
  exact lv_if_eq hx hb hd ht (fun _ => k H locs ls hn hP hS hl) (fun q => absurd hc q)
theorem x_if_eq_f {x : Int32} {off : Int} (B : XB K cx own bytes nL n fr lo) (tgt : Nat) (hd : decode bytes pc = .ok (.ifCond .eq off, 3)) (ht : (pc : Int) + off = (tgt : Int)) (hc : ¬ x = 0) (k : Wx K cx nL n (pc + 3) L st w) : Wx K cx nL n pc L (.int x :: st) w := by
  obtain ⟨p, l, e, R, s, m, args, below, meth, c, Q, A, cells, slots⟩ := K
  obtain ⟨hx, hb, hml, hown, hts, hG, hn0, hi, hA, hA0, hfr, hlo, hce, hsl⟩ := B
  intro H locs ls hn hP hS hl
  exact lv_if_eq hx hb hd ht (fun q => absurd q hc) (fun _ => k H locs ls hn hP hS hl)
theorem x_if_ne_t {x : Int32} {off : Int} {tgt : Nat} (B : XB K cx own bytes nL n fr lo) (hd : decode bytes pc = .ok (.ifCond .ne off, 3)) (ht : (pc : Int) + off = (tgt : Int)) (hc : ¬ x = 0) (k : Wx K cx nL n tgt L st w) : Wx K cx nL n pc L (.int x :: st) w := by
  obtain ⟨p, l, e, R, s, m, args, below, meth, c, Q, A, cells, slots⟩ := K
  obtain ⟨hx, hb, hml, hown, hts, hG, hn0, hi, hA, hA0, hfr, hlo, hce, hsl⟩ := B
  intro H locs ls hn hP hS hl
  exact lv_if_ne hx hb hd ht (fun _ => k H locs ls hn hP hS hl) (fun q => absurd q hc)
theorem x_if_ne_f {x : Int32} {off : Int} (B : XB K cx own bytes nL n fr lo) (tgt : Nat) (hd : decode bytes pc = .ok (.ifCond .ne off, 3)) (ht : (pc : Int) + off = (tgt : Int)) (hc : x = 0) (k : Wx K cx nL n (pc + 3) L st w) : Wx K cx nL n pc L (.int x :: st) w := by
  obtain ⟨p, l, e, R, s, m, args, below, meth, c, Q, A, cells, slots⟩ := K
  obtain ⟨hx, hb, hml, hown, hts, hG, hn0, hi, hA, hA0, hfr, hlo, hce, hsl⟩ := B
  intro H locs ls hn hP hS hl
  exact lv_if_ne hx hb hd ht (fun q => absurd hc q) (fun _ => k H locs ls hn hP hS hl)
theorem x_if_lt_t {x : Int32} {off : Int} {tgt : Nat} (B : XB K cx own bytes nL n fr lo) (hd : decode bytes pc = .ok (.ifCond .lt off, 3)) (ht : (pc : Int) + off = (tgt : Int)) (hc : x < 0) (k : Wx K cx nL n tgt L st w) : Wx K cx nL n pc L (.int x :: st) w := by
  obtain ⟨p, l, e, R, s, m, args, below, meth, c, Q, A, cells, slots⟩ := K
  obtain ⟨hx, hb, hml, hown, hts, hG, hn0, hi, hA, hA0, hfr, hlo, hce, hsl⟩ := B
  intro H locs ls hn hP hS hl
  exact lv_if_lt hx hb hd ht (fun _ => k H locs ls hn hP hS hl) (fun q => absurd hc q)
theorem x_if_lt_f {x : Int32} {off : Int} (B : XB K cx own bytes nL n fr lo) (tgt : Nat) (hd : decode bytes pc = .ok (.ifCond .lt off, 3)) (ht : (pc : Int) + off = (tgt : Int)) (hc : ¬ x < 0) (k : Wx K cx nL n (pc + 3) L st w) : Wx K cx nL n pc L (.int x :: st) w := by
  obtain ⟨p, l, e, R, s, m, args, below, meth, c, Q, A, cells, slots⟩ := K
  obtain ⟨hx, hb, hml, hown, hts, hG, hn0, hi, hA, hA0, hfr, hlo, hce, hsl⟩ := B
  intro H locs ls hn hP hS hl
  exact lv_if_lt hx hb hd ht (fun q => absurd q hc) (fun _ => k H locs ls hn hP hS hl)
theorem x_if_ge_t {x : Int32} {off : Int} {tgt : Nat} (B : XB K cx own bytes nL n fr lo) (hd : decode bytes pc = .ok (.ifCond .ge off, 3)) (ht : (pc : Int) + off = (tgt : Int)) (hc : 0 ≤ x) (k : Wx K cx nL n tgt L st w) : Wx K cx nL n pc L (.int x :: st) w := by
  obtain ⟨p, l, e, R, s, m, args, below, meth, c, Q, A, cells, slots⟩ := K
  obtain ⟨hx, hb, hml, hown, hts, hG, hn0, hi, hA, hA0, hfr, hlo, hce, hsl⟩ := B
  intro H locs ls hn hP hS hl
  exact lv_if_ge hx hb hd ht (fun _ => k H locs ls hn hP hS hl) (fun q => absurd hc q)
theorem x_if_ge_f {x : Int32} {off : Int} (B : XB K cx own bytes nL n fr lo) (tgt : Nat) (hd : decode bytes pc = .ok (.ifCond .ge off, 3)) (ht : (pc : Int) + off = (tgt : Int)) (hc : ¬ 0 ≤ x) (k : Wx K cx nL n (pc + 3) L st w) : Wx K cx nL n pc L (.int x :: st) w := by
  obtain ⟨p, l, e, R, s, m, args, below, meth, c, Q, A, cells, slots⟩ := K
  obtain ⟨hx, hb, hml, hown, hts, hG, hn0, hi, hA, hA0, hfr, hlo, hce, hsl⟩ := B
  intro H locs ls hn hP hS hl
  exact lv_if_ge hx hb hd ht (fun q => absurd q hc) (fun _ => k H locs ls hn hP hS hl)
theorem x_if_gt_t {x : Int32} {off : Int} {tgt : Nat} (B : XB K cx own bytes nL n fr lo) (hd : decode bytes pc = .ok (.ifCond .gt off, 3)) (ht : (pc : Int) + off = (tgt : Int)) (hc : 0 < x) (k : Wx K cx nL n tgt L st w) : Wx K cx nL n pc L (.int x :: st) w := by
  obtain ⟨p, l, e, R, s, m, args, below, meth, c, Q, A, cells, slots⟩ := K
  obtain ⟨hx, hb, hml, hown, hts, hG, hn0, hi, hA, hA0, hfr, hlo, hce, hsl⟩ := B
  intro H locs ls hn hP hS hl
  exact lv_if_gt hx hb hd ht (fun _ => k H locs ls hn hP hS hl) (fun q => absurd hc q)
theorem x_if_gt_f {x : Int32} {off : Int} (B : XB K cx own bytes nL n fr lo) (tgt : Nat) (hd : decode bytes pc = .ok (.ifCond .gt off, 3)) (ht : (pc : Int) + off = (tgt : Int)) (hc : ¬ 0 < x) (k : Wx K cx nL n (pc + 3) L st w) : Wx K cx nL n pc L (.int x :: st) w := by
  obtain ⟨p, l, e, R, s, m, args, below, meth, c, Q, A, cells, slots⟩ := K
  obtain ⟨hx, hb, hml, hown, hts, hG, hn0, hi, hA, hA0, hfr, hlo, hce, hsl⟩ := B
  intro H locs ls hn hP hS hl
  exact lv_if_gt hx hb hd ht (fun q => absurd q hc) (fun _ => k H locs ls hn hP hS hl)
theorem x_if_le_t {x : Int32} {off : Int} {tgt : Nat} (B : XB K cx own bytes nL n fr lo) (hd : decode bytes pc = .ok (.ifCond .le off, 3)) (ht : (pc : Int) + off = (tgt : Int)) (hc : x ≤ 0) (k : Wx K cx nL n tgt L st w) : Wx K cx nL n pc L (.int x :: st) w := by
  obtain ⟨p, l, e, R, s, m, args, below, meth, c, Q, A, cells, slots⟩ := K
  obtain ⟨hx, hb, hml, hown, hts, hG, hn0, hi, hA, hA0, hfr, hlo, hce, hsl⟩ := B
  intro H locs ls hn hP hS hl
  exact lv_if_le hx hb hd ht (fun _ => k H locs ls hn hP hS hl) (fun q => absurd hc q)
theorem x_if_le_f {x : Int32} {off : Int} (B : XB K cx own bytes nL n fr lo) (tgt : Nat) (hd : decode bytes pc = .ok (.ifCond .le off, 3)) (ht : (pc : Int) + off = (tgt : Int)) (hc : ¬ x ≤ 0) (k : Wx K cx nL n (pc + 3) L st w) : Wx K cx nL n pc L (.int x :: st) w := by
  obtain ⟨p, l, e, R, s, m, args, below, meth, c, Q, A, cells, slots⟩ := K
  obtain ⟨hx, hb, hml, hown, hts, hG, hn0, hi, hA, hA0, hfr, hlo, hce, hsl⟩ := B
  intro H locs ls hn hP hS hl
  exact lv_if_le hx hb hd ht (fun q => absurd q hc) (fun _ => k H locs ls hn hP hS hl)
theorem x_icmp_eq_t {x y : Int32} {off : Int} {tgt : Nat} (B : XB K cx own bytes nL n fr lo) (hd : decode bytes pc = .ok (.if_icmp .eq off, 3)) (ht : (pc : Int) + off = (tgt : Int)) (hc : x = y) (k : Wx K cx nL n tgt L st w) : Wx K cx nL n pc L (.int y :: .int x :: st) w := by
  obtain ⟨p, l, e, R, s, m, args, below, meth, c, Q, A, cells, slots⟩ := K
  obtain ⟨hx, hb, hml, hown, hts, hG, hn0, hi, hA, hA0, hfr, hlo, hce, hsl⟩ := B
  intro H locs ls hn hP hS hl
  exact lv_icmp_eq hx hb hd ht (fun _ => k H locs ls hn hP hS hl) (fun q => absurd hc q)
theorem x_icmp_eq_f {x y : Int32} {off : Int} (B : XB K cx own bytes nL n fr lo) (tgt : Nat) (hd : decode bytes pc = .ok (.if_icmp .eq off, 3)) (ht : (pc : Int) + off = (tgt : Int)) (hc : ¬ x = y) (k : Wx K cx nL n (pc + 3) L st w) : Wx K cx nL n pc L (.int y :: .int x :: st) w := by
  obtain ⟨p, l, e, R, s, m, args, below, meth, c, Q, A, cells, slots⟩ := K
  obtain ⟨hx, hb, hml, hown, hts, hG, hn0, hi, hA, hA0, hfr, hlo, hce, hsl⟩ := B
  intro H locs ls hn hP hS hl
  exact lv_icmp_eq hx hb hd ht (fun q => absurd q hc) (fun _ => k H locs ls hn hP hS hl)
theorem x_icmp_ne_t {x y : Int32} {off : Int} {tgt : Nat} (B : XB K cx own bytes nL n fr lo) (hd : decode bytes pc = .ok (.if_icmp .ne off, 3)) (ht : (pc : Int) + off = (tgt : Int)) (hc : ¬ x = y) (k : Wx K cx nL n tgt L st w) : Wx K cx nL n pc L (.int y :: .int x :: st) w := by
  obtain ⟨p, l, e, R, s, m, args, below, meth, c, Q, A, cells, slots⟩ := K
  obtain ⟨hx, hb, hml, hown, hts, hG, hn0, hi, hA, hA0, hfr, hlo, hce, hsl⟩ := B
  intro H locs ls hn hP hS hl
  exact lv_icmp_ne hx hb hd ht (fun _ => k H locs ls hn hP hS hl) (fun q => absurd q hc)
theorem x_icmp_ne_f {x y : Int32} {off : Int} (B : XB K cx own bytes nL n fr lo) (tgt : Nat) (hd : decode bytes pc = .ok (.if_icmp .ne off, 3)) (ht : (pc : Int) + off = (tgt : Int)) (hc : x = y) (k : Wx K cx nL n (pc + 3) L st w) : Wx K cx nL n pc L (.int y :: .int x :: st) w := by
  obtain ⟨p, l, e, R, s, m, args, below, meth, c, Q, A, cells, slots⟩ := K
  obtain ⟨hx, hb, hml, hown, hts, hG, hn0, hi, hA, hA0, hfr, hlo, hce, hsl⟩ := B
  intro H locs ls hn hP hS hl
  exact lv_icmp_ne hx hb hd ht (fun q => absurd hc q) (fun _ => k H locs ls hn hP hS hl)
theorem x_icmp_lt_t {x y : Int32} {off : Int} {tgt : Nat} (B : XB K cx own bytes nL n fr lo) (hd : decode bytes pc = .ok (.if_icmp .lt off, 3)) (ht : (pc : Int) + off = (tgt : Int)) (hc : x < y) (k : Wx K cx nL n tgt L st w) : Wx K cx nL n pc L (.int y :: .int x :: st) w := by
  obtain ⟨p, l, e, R, s, m, args, below, meth, c, Q, A, cells, slots⟩ := K
  obtain ⟨hx, hb, hml, hown, hts, hG, hn0, hi, hA, hA0, hfr, hlo, hce, hsl⟩ := B
  intro H locs ls hn hP hS hl
  exact lv_icmp_lt hx hb hd ht (fun _ => k H locs ls hn hP hS hl) (fun q => absurd hc q)
theorem x_icmp_lt_f {x y : Int32} {off : Int} (B : XB K cx own bytes nL n fr lo) (tgt : Nat) (hd : decode bytes pc = .ok (.if_icmp .lt off, 3)) (ht : (pc : Int) + off = (tgt : Int)) (hc : ¬ x < y) (k : Wx K cx nL n (pc + 3) L st w) : Wx K cx nL n pc L (.int y :: .int x :: st) w := by
  obtain ⟨p, l, e, R, s, m, args, below, meth, c, Q, A, cells, slots⟩ := K
  obtain ⟨hx, hb, hml, hown, hts, hG, hn0, hi, hA, hA0, hfr, hlo, hce, hsl⟩ := B
  intro H locs ls hn hP hS hl
  exact lv_icmp_lt hx hb hd ht (fun q => absurd q hc) (fun _ => k H locs ls hn hP hS hl)
theorem x_icmp_ge_t {x y : Int32} {off : Int} {tgt : Nat} (B : XB K cx own bytes nL n fr lo) (hd : decode bytes pc = .ok (.if_icmp .ge off, 3)) (ht : (pc : Int) + off = (tgt : Int)) (hc : y ≤ x) (k : Wx K cx nL n tgt L st w) : Wx K cx nL n pc L (.int y :: .int x :: st) w := by
  obtain ⟨p, l, e, R, s, m, args, below, meth, c, Q, A, cells, slots⟩ := K
  obtain ⟨hx, hb, hml, hown, hts, hG, hn0, hi, hA, hA0, hfr, hlo, hce, hsl⟩ := B
  intro H locs ls hn hP hS hl
  exact lv_icmp_ge hx hb hd ht (fun _ => k H locs ls hn hP hS hl) (fun q => absurd hc q)
theorem x_icmp_ge_f {x y : Int32} {off : Int} (B : XB K cx own bytes nL n fr lo) (tgt : Nat) (hd : decode bytes pc = .ok (.if_icmp .ge off, 3)) (ht : (pc : Int) + off = (tgt : Int)) (hc : ¬ y ≤ x) (k : Wx K cx nL n (pc + 3) L st w) : Wx K cx nL n pc L (.int y :: .int x :: st) w := by
  obtain ⟨p, l, e, R, s, m, args, below, meth, c, Q, A, cells, slots⟩ := K
  obtain ⟨hx, hb, hml, hown, hts, hG, hn0, hi, hA, hA0, hfr, hlo, hce, hsl⟩ := B
  intro H locs ls hn hP hS hl
  exact lv_icmp_ge hx hb hd ht (fun q => absurd q hc) (fun _ => k H locs ls hn hP hS hl)
theorem x_icmp_gt_t {x y : Int32} {off : Int} {tgt : Nat} (B : XB K cx own bytes nL n fr lo) (hd : decode bytes pc = .ok (.if_icmp .gt off, 3)) (ht : (pc : Int) + off = (tgt : Int)) (hc : y < x) (k : Wx K cx nL n tgt L st w) : Wx K cx nL n pc L (.int y :: .int x :: st) w := by
  obtain ⟨p, l, e, R, s, m, args, below, meth, c, Q, A, cells, slots⟩ := K
  obtain ⟨hx, hb, hml, hown, hts, hG, hn0, hi, hA, hA0, hfr, hlo, hce, hsl⟩ := B
  intro H locs ls hn hP hS hl
  exact lv_icmp_gt hx hb hd ht (fun _ => k H locs ls hn hP hS hl) (fun q => absurd hc q)
theorem x_icmp_gt_f {x y : Int32} {off : Int} (B : XB K cx own bytes nL n fr lo) (tgt : Nat) (hd : decode bytes pc = .ok (.if_icmp .gt off, 3)) (ht : (pc : Int) + off = (tgt : Int)) (hc : ¬ y < x) (k : Wx K cx nL n (pc + 3) L st w) : Wx K cx nL n pc L (.int y :: .int x :: st) w := by
  obtain ⟨p, l, e, R, s, m, args, below, meth, c, Q, A, cells, slots⟩ := K
  obtain ⟨hx, hb, hml, hown, hts, hG, hn0, hi, hA, hA0, hfr, hlo, hce, hsl⟩ := B
  intro H locs ls hn hP hS hl
  exact lv_icmp_gt hx hb hd ht (fun q => absurd q hc) (fun _ => k H locs ls hn hP hS hl)
theorem x_icmp_le_t {x y : Int32} {off : Int} {tgt : Nat} (B : XB K cx own bytes nL n fr lo) (hd : decode bytes pc = .ok (.if_icmp .le off, 3)) (ht : (pc : Int) + off = (tgt : Int)) (hc : x ≤ y) (k : Wx K cx nL n tgt L st w) : Wx K cx nL n pc L (.int y :: .int x :: st) w := by
  obtain ⟨p, l, e, R, s, m, args, below, meth, c, Q, A, cells, slots⟩ := K
  obtain ⟨hx, hb, hml, hown, hts, hG, hn0, hi, hA, hA0, hfr, hlo, hce, hsl⟩ := B
  intro H locs ls hn hP hS hl
  exact lv_icmp_le hx hb hd ht (fun _ => k H locs ls hn hP hS hl) (fun q => absurd hc q)
theorem x_icmp_le_f {x y : Int32} {off : Int} (B : XB K cx own bytes nL n fr lo) (tgt : Nat) (hd : decode bytes pc = .ok (.if_icmp .le off, 3)) (ht : (pc : Int) + off = (tgt : Int)) (hc : ¬ x ≤ y) (k : Wx K cx nL n (pc + 3) L st w) : Wx K cx nL n pc L (.int y :: .int x :: st) w := by
  obtain ⟨p, l, e, R, s, m, args, below, meth, c, Q, A, cells, slots⟩ := K
  obtain ⟨hx, hb, hml, hown, hts, hG, hn0, hi, hA, hA0, hfr, hlo, hce, hsl⟩ := B
  intro H locs ls hn hP hS hl
  exact lv_icmp_le hx hb hd ht (fun q => absurd q hc) (fun _ => k H locs ls hn hP hS hl)
theorem x_look {x : Int32} {dflt off : Int} {ps : Array (Int × Int)} {len tgt : Nat} (B : XB K cx own bytes nL n fr lo) (hd : decode bytes pc = .ok (.lookupswitch dflt ps, len)) (hp : (ps.toList.zip (ps.toList.drop 1)).all (fun (a, next) => a.1 < next.1) = true) (ho : Op.lookupswitch.offset ps.toList dflt x.toInt = off) (ht : (pc : Int) + off = (tgt : Int)) (k : Wx K cx nL n tgt L st w) : Wx K cx nL n pc L (.int x :: st) w := by
  obtain ⟨p, l, e, R, s, m, args, below, meth, c, Q, A, cells, slots⟩ := K
  obtain ⟨hx, hb, hml, hown, hts, hG, hn0, hi, hA, hA0, hfr, hlo, hce, hsl⟩ := B
  intro H locs ls hn hP hS hl
  exact lv_lookup hx hb hd hp ho ht (k H locs ls hn hP hS hl)
theorem x_tabOut {x : Int32} {dflt a b : Int} {offs : Array Int} {len tgt : Nat} (B : XB K cx own bytes nL n fr lo) (hd : decode bytes pc = .ok (.tableswitch dflt a b offs, len)) (h : x.toInt < a ∨ b < x.toInt) (ht : (pc : Int) + dflt = (tgt : Int)) (k : Wx K cx nL n tgt L st w) : Wx K cx nL n pc L (.int x :: st) w := by
  obtain ⟨p, l, e, R, s, m, args, below, meth, c, Q, A, cells, slots⟩ := K
  obtain ⟨hx, hb, hml, hown, hts, hG, hn0, hi, hA, hA0, hfr, hlo, hce, hsl⟩ := B
  intro H locs ls hn hP hS hl
  exact lv_tableOut hx hb hd h ht (k H locs ls hn hP hS hl)
theorem x_tabIn {x : Int32} {dflt a b off : Int} {offs : Array Int} {len tgt : Nat} (B : XB K cx own bytes nL n fr lo) (hd : decode bytes pc = .ok (.tableswitch dflt a b offs, len)) (h1 : ¬ x.toInt < a) (h2 : ¬ b < x.toInt) (ho : offs[(x.toInt - a).toNat]? = some off) (ht : (pc : Int) + off = (tgt : Int)) (k : Wx K cx nL n tgt L st w) : Wx K cx nL n pc L (.int x :: st) w := by
  obtain ⟨p, l, e, R, s, m, args, below, meth, c, Q, A, cells, slots⟩ := K
  obtain ⟨hx, hb, hml, hown, hts, hG, hn0, hi, hA, hA0, hfr, hlo, hce, hsl⟩ := B
  intro H locs ls hn hP hS hl
  exact lv_tableIn hx hb hd h1 h2 ho ht (k H locs ls hn hP hS hl)
theorem x_ldc {i : Nat} {v : Int32} (B : XB K cx own bytes nL n fr lo) (hd : decode bytes pc = .ok (.ldc i, 2)) (hw : Cond.constant own i v ∈ xT) (k : Wx K cx nL n (pc + 2) L (.int v :: st) w) : Wx K cx nL n pc L st w := by
  obtain ⟨p, l, e, R, s, m, args, below, meth, c, Q, A, cells, slots⟩ := K
  obtain ⟨hx, hb, hml, hown, hts, hG, hn0, hi, hA, hA0, hfr, hlo, hce, hsl⟩ := B
  intro H locs ls hn hP hS hl
  exact lv_ldc hx hb hown (hts _ hw) hd (k H locs ls hn hP hS hl)
theorem x_ldcw {i : Nat} {v : Int32} (B : XB K cx own bytes nL n fr lo) (hd : decode bytes pc = .ok (.ldc_w i, 3)) (hw : Cond.constant own i v ∈ xT) (k : Wx K cx nL n (pc + 3) L (.int v :: st) w) : Wx K cx nL n pc L st w := by
  obtain ⟨p, l, e, R, s, m, args, below, meth, c, Q, A, cells, slots⟩ := K
  obtain ⟨hx, hb, hml, hown, hts, hG, hn0, hi, hA, hA0, hfr, hlo, hce, hsl⟩ := B
  intro H locs ls hn hP hS hl
  exact lv_ldcw hx hb hown (hts _ hw) hd (k H locs ls hn hP hS hl)
theorem x_ldc2 {i : Nat} {v : Int64} (B : XB K cx own bytes nL n fr lo) (hd : decode bytes pc = .ok (.ldc2_w i, 3)) (hw : Cond.constantLong own i v ∈ xT) (k : Wx K cx nL n (pc + 3) L (.long v :: st) w) : Wx K cx nL n pc L st w := by
  obtain ⟨p, l, e, R, s, m, args, below, meth, c, Q, A, cells, slots⟩ := K
  obtain ⟨hx, hb, hml, hown, hts, hG, hn0, hi, hA, hA0, hfr, hlo, hce, hsl⟩ := B
  intro H locs ls hn hP hS hl
  exact lv_ldc2 hx hb hown (hts _ hw) hd (k H locs ls hn hP hS hl)
theorem x_ldcS {i : Nat} {t : String} {q0 : Nat} (B : XB K cx own bytes nL n fr lo) (hd : decode bytes pc = .ok (.ldc i, 2)) (hw : own = RX1) (hq : (i, t, q0) ∈ xSr) (hq0 : q0 < 1000) (k : Wx K cx nL n (pc + 2) L (.ref (1000 + q0) :: st) w) : Wx K cx nL n pc L st w := by
  obtain ⟨p, l, e, R, s, m, args, below, meth, c, Q, A, cells, slots⟩ := K
  obtain ⟨hx, hb, hml, hown, hts, hG, hn0, hi, hA, hA0, hfr, hlo, hce, hsl⟩ := B
  intro H locs ls hn hP hS hl
  exact va_ldcS (tx := t) (q := xa cx (1000 + q0)) hx hb hown (by rw [xa_s hq0, hw]; exact hG.2.2.2.1 _ hq) hd (k H locs ls hn hP hS hl)
theorem x_mmax {x y : Int32} {index : Nat} (B : XB K cx own bytes nL n fr lo) (hd : decode bytes pc = .ok (.invokestatic index, 3)) (hl9 : Cond.methodLink own index yJ9_max_7cf53 ∈ xT) (hfr9 : 1 ≤ fr) (hlo9 : (st.map fun v => v.category).sum + 13 ≤ lo) (k : Wx K cx nL n (pc + 3) L (.int (if x < y then y else x) :: st) w) : Wx K cx nL n pc L (.int y :: .int x :: st) w := by
  obtain ⟨p, l, e, R, s, m, args, below, meth, c, Q, A, cells, slots⟩ := K
  obtain ⟨hx, hb, hml, hown, hts, hG, hn0, hi, hA, hA0, hfr, hlo, hce, hsl⟩ := B
  intro H locs ls hn hP hS hl
  exact va_mmax hx hb (by rw [hml]; exact hl.1.symm) hown (hts _ hl9) (hts _ xt_319) (hts _ xt_60) (hts _ xt_320) (Nat.le_trans hfr9 hfr) (Nat.le_trans (by rw [List.map_map]; rw [show ((fun v : Value => v.category) ∘ xv cx) = (fun v => v.category) from funext (xv_cat cx)]; exact hlo9) hlo) hce hsl hd (k H locs ls hn hP hS hl)
theorem x_mmin {x y : Int32} {index : Nat} (B : XB K cx own bytes nL n fr lo) (hd : decode bytes pc = .ok (.invokestatic index, 3)) (hl9 : Cond.methodLink own index yJ9_min_7cf53 ∈ xT) (hfr9 : 1 ≤ fr) (hlo9 : (st.map fun v => v.category).sum + 13 ≤ lo) (k : Wx K cx nL n (pc + 3) L (.int (if y < x then y else x) :: st) w) : Wx K cx nL n pc L (.int y :: .int x :: st) w := by
  obtain ⟨p, l, e, R, s, m, args, below, meth, c, Q, A, cells, slots⟩ := K
  obtain ⟨hx, hb, hml, hown, hts, hG, hn0, hi, hA, hA0, hfr, hlo, hce, hsl⟩ := B
  intro H locs ls hn hP hS hl
  exact va_mmin hx hb (by rw [hml]; exact hl.1.symm) hown (hts _ hl9) (hts _ xt_326) (hts _ xt_60) (hts _ xt_327) (Nat.le_trans hfr9 hfr) (Nat.le_trans (by rw [List.map_map]; rw [show ((fun v : Value => v.category) ∘ xv cx) = (fun v => v.category) from funext (xv_cat cx)]; exact hlo9) hlo) hce hsl hd (k H locs ls hn hP hS hl)
theorem x_mabs {x : Int32} {index : Nat} (B : XB K cx own bytes nL n fr lo) (hd : decode bytes pc = .ok (.invokestatic index, 3)) (hl9 : Cond.methodLink own index yJ9_abs_0f7a4 ∈ xT) (hfr9 : 1 ≤ fr) (hlo9 : (st.map fun v => v.category).sum + 13 ≤ lo) (k : Wx K cx nL n (pc + 3) L (.int (if 0 ≤ x then x else 0 - x) :: st) w) : Wx K cx nL n pc L (.int x :: st) w := by
  obtain ⟨p, l, e, R, s, m, args, below, meth, c, Q, A, cells, slots⟩ := K
  obtain ⟨hx, hb, hml, hown, hts, hG, hn0, hi, hA, hA0, hfr, hlo, hce, hsl⟩ := B
  intro H locs ls hn hP hS hl
  exact va_mabs hx hb (by rw [hml]; exact hl.1.symm) hown (hts _ hl9) (hts _ xt_377) (hts _ xt_60) (hts _ xt_378) (Nat.le_trans hfr9 hfr) (Nat.le_trans (by rw [List.map_map]; rw [show ((fun v : Value => v.category) ∘ xv cx) = (fun v => v.category) from funext (xv_cat cx)]; exact hlo9) hlo) hce hsl hd (k H locs ls hn hP hS hl)
theorem xlg3 {v : Value} (h : v.category = 1) (a b : Int32) : (lg_sl [.int a, .int b, v]).length ≤ 3 := by
  unfold lg_sl
  simp only [List.flatMap_cons, h]
  exact Nat.le_of_ble_eq_true rfl
theorem xgI_at {a ci k0 : Nat} {x : Int32} (h : xgI w a ci k0 = some x) : ∃ fs, w[a]? = some (.inr (ci, fs)) ∧ fs[k0]? = some (.int x) := by
  unfold xgI at h
  split at h
  next c1 fs e =>
    split at h
    next q =>
      subst q
      split at h
      next v e2 => cases h; exact ⟨fs, e, e2⟩
      next => cases h
    next => cases h
  next => cases h
theorem xgR_at {a ci k0 x : Nat} (h : xgR w a ci k0 = some x) : ∃ fs, w[a]? = some (.inr (ci, fs)) ∧ fs[k0]? = some (.ref x) := by
  unfold xgR at h
  split at h
  next c1 fs e =>
    split at h
    next q =>
      subst q
      split at h
      next v e2 => cases h; exact ⟨fs, e, e2⟩
      next => cases h
    next => cases h
  next => cases h
theorem xpI_at {a ci k0 : Nat} {x : Int32} {w1 : XW} (h : xpI w a ci k0 x = some w1) : ∃ fs, w[a]? = some (.inr (ci, fs)) ∧ k0 < fs.length ∧ w1 = w.set a (.inr (ci, fs.set k0 (.int x))) := by
  unfold xpI at h
  split at h
  next c1 fs e =>
    split at h
    next q =>
      obtain ⟨q1, q2⟩ := q
      subst q1
      cases h
      exact ⟨fs, e, q2, rfl⟩
    next => cases h
  next => cases h
theorem xct_P {D : va_G} {cl : List vw_C} {ws : va_W} {q0 a0 n0 : Nat} {c0 : ClassId} {f : Nat → Int32} {H : Heap} (h : va_P D cl (ws.set q0 (a0, .inl (c0, n0, .inl f))) H) : va_P D cl (ws.set q0 (a0, .inl (c0, n0, .inl (xct n0 f)))) H := by
  intro k q hq
  by_cases hk : q0 = k
  · subst hk
    by_cases hl : q0 < ws.length
    · rw [List.getElem?_set, if_pos rfl, if_pos hl] at hq
      have h1 := h q0 (a0, .inl (c0, n0, .inl f)) (by rw [List.getElem?_set, if_pos rfl, if_pos hl])
      rw [← Option.some.inj hq]
      have e : vp_cell c0 (n0, .inl (xct n0 f)) = vp_cell c0 (n0, .inl f) := by
        show ({ cls := c0, slots := Array.ofFn (n := n0) fun j => Value.int (xct n0 f j.val), vm := .none } : Cell) = { cls := c0, slots := Array.ofFn (n := n0) fun j => Value.int (f j.val), vm := .none }
        congr 2
        funext j
        unfold xct
        rw [if_pos j.isLt]
      show H[a0]? = some (vp_cell c0 (n0, .inl (xct n0 f)))
      rw [e]
      exact h1
    · rw [List.getElem?_set, if_pos rfl, if_neg hl] at hq
      cases hq
  · rw [List.getElem?_set, if_neg hk] at hq
    exact h k q (by rw [List.getElem?_set, if_neg hk]; exact hq)
theorem xlt {a : Nat} {e : XE} (h : w[a]? = some e) : a < w.length := (List.getElem?_eq_some_iff.mp h).1
theorem xD_B {K : KX} {A1 : Nat → Prop} (hn : w.length = n) (h1 : ∀ i j, i < n → j < n → xad cx i = xad cx j → i = j) (h2 : ∀ i, i < n → A1 (xad cx i)) : va_D A1 (xw cx w) := by
  subst hn
  exact xD_to h1 h2
theorem x_getI {ci N k0 index : Nat} {T : u_T} {Cn ref nm ds : String} {a : Nat} {x : Int32} (B : XB K cx own bytes nL n fr lo) (hd : decode bytes pc = .ok (.getfield index, 3)) (hcl : xCl[ci]? = some (Cn, T, N)) (hws : ∀ w ∈ u_ws Cn T N, w ∈ xT) (hk : k0 < N) (hT : (T k0).2.1 = nm ∧ (T k0).2.2.1 = ds ∧ (T k0).1 = ref) (hl9 : Cond.fieldLink own index ref nm ds ∈ xT) (hg : xgI w a ci k0 = some x) (k : Wx K cx nL n (pc + 3) L (.int x :: st) w) : Wx K cx nL n pc L (.ref a :: st) w := by
  obtain ⟨p, l, e, R, s, m, args, below, meth, c, Q, A, cells, slots⟩ := K
  obtain ⟨hx, hb, hml, hown, hts, hG, hn0, hi, hA, hA0, hfr, hlo, hce, hsl⟩ := B
  intro H locs ls hn hP hS hl
  obtain ⟨fs, e1, e2⟩ := xgI_at hg
  have hxa : xa cx a = xad cx a := xa_w (by have := xlt e1; omega)
  exact va_get (cl := xCl) (C := Cn) (T := T) (N := N) (ref := ref) (index := index) (v := xv cx (.int x)) (a := xa cx a) hx hb hts hws hown hG.1 hP a (by rw [hxa]; exact xw_at e1) hcl k0 hk (by rw [hT.1, hT.2.1]; exact hts _ hl9) (by rw [hT.1, hT.2.1, hT.2.2]; exact fun _ h9 => h9) (by rw [List.getElem?_map, e2]; rfl) hd (k H locs ls hn hP hS hl)
theorem x_getR {ci N k0 index : Nat} {T : u_T} {Cn ref nm ds : String} {a : Nat} {x : Nat} (B : XB K cx own bytes nL n fr lo) (hd : decode bytes pc = .ok (.getfield index, 3)) (hcl : xCl[ci]? = some (Cn, T, N)) (hws : ∀ w ∈ u_ws Cn T N, w ∈ xT) (hk : k0 < N) (hT : (T k0).2.1 = nm ∧ (T k0).2.2.1 = ds ∧ (T k0).1 = ref) (hl9 : Cond.fieldLink own index ref nm ds ∈ xT) (hg : xgR w a ci k0 = some x) (k : Wx K cx nL n (pc + 3) L (.ref x :: st) w) : Wx K cx nL n pc L (.ref a :: st) w := by
  obtain ⟨p, l, e, R, s, m, args, below, meth, c, Q, A, cells, slots⟩ := K
  obtain ⟨hx, hb, hml, hown, hts, hG, hn0, hi, hA, hA0, hfr, hlo, hce, hsl⟩ := B
  intro H locs ls hn hP hS hl
  obtain ⟨fs, e1, e2⟩ := xgR_at hg
  have hxa : xa cx a = xad cx a := xa_w (by have := xlt e1; omega)
  exact va_get (cl := xCl) (C := Cn) (T := T) (N := N) (ref := ref) (index := index) (v := xv cx (.ref x)) (a := xa cx a) hx hb hts hws hown hG.1 hP a (by rw [hxa]; exact xw_at e1) hcl k0 hk (by rw [hT.1, hT.2.1]; exact hts _ hl9) (by rw [hT.1, hT.2.1, hT.2.2]; exact fun _ h9 => h9) (by rw [List.getElem?_map, e2]; rfl) hd (k H locs ls hn hP hS hl)
theorem x_putI {ci N k0 index : Nat} {T : u_T} {Cn ref nm ds : String} {tys : Nat → FieldType} {a : Nat} {x : Int32} {w1 : XW} (B : XB K cx own bytes nL n fr lo) (hd : decode bytes pc = .ok (.putfield index, 3)) (hcl : xCl[ci]? = some (Cn, T, N)) (hws : ∀ w ∈ u_ws Cn T N, w ∈ xT) (hk : k0 < N) (hT : (T k0).2.1 = nm ∧ (T k0).2.2.1 = ds ∧ (T k0).1 = ref) (hl9 : Cond.fieldLink own index ref nm ds ∈ xT) (htys : ∀ k, k < N → parseFieldDescriptor (T k).2.2.1 = some (tys k)) (hnm : ∀ a, a < N → ∀ b, b < N → a ≠ b → (T a).2.1 ≠ (T b).2.1) (hfin : (T k0).2.2.2 = false) (hds : parseFieldDescriptor ds = some .int) (hg : xpI w a ci k0 x = some w1) (k : Wx K cx nL n (pc + 3) L st w1) : Wx K cx nL n pc L (.int x :: .ref a :: st) w := by
  obtain ⟨p, l, e, R, s, m, args, below, meth, c, Q, A, cells, slots⟩ := K
  obtain ⟨hx, hb, hml, hown, hts, hG, hn0, hi, hA, hA0, hfr, hlo, hce, hsl⟩ := B
  intro H locs ls hn hP hS hl
  obtain ⟨fs, e1, e2, e3⟩ := xpI_at hg
  have hxa : xa cx a = xad cx a := xa_w (by have := xlt e1; omega)
  have hD : va_D A (xw cx w) := xD_B (K := (p, l, e, R, s, m, args, below, meth, c, Q, A, cells, slots)) hn hi hA
  exact va_put (cl := xCl) (C := Cn) (T := T) (N := N) (ref := ref) (index := index) (v := .int x) (ty := .int) (a := xa cx a) hx hb hts hws tys htys hnm hown hG.1 hP hD hS a (by rw [hxa]; exact xw_at e1) hcl k0 hk (by rw [hT.1, hT.2.1]; exact hts _ hl9) (by rw [hT.1, hT.2.1, hT.2.2]; exact fun _ h9 => h9) hfin (by rw [hT.2.1]; exact hds) rfl rfl (by rw [List.length_map]; exact e2) hd (fun H1 locs1 hP1 hD1 hS1 => k H1 locs1 ls (by rw [e3, List.length_set]; exact hn) (by
      rw [e3, ← xw_set]
      rw [hxa] at hP1
      show va_P _ _ ((xw cx w).set a (xad cx a, .inr (ci, (fs.set k0 (.int x)).map (xv cx)))) _
      rw [List.map_set]
      exact hP1) hS1 hl)
theorem x_putZ {ci N k0 index : Nat} {T : u_T} {Cn ref nm ds : String} {tys : Nat → FieldType} {a : Nat} {x : Int32} {w1 : XW} (B : XB K cx own bytes nL n fr lo) (hd : decode bytes pc = .ok (.putfield index, 3)) (hcl : xCl[ci]? = some (Cn, T, N)) (hws : ∀ w ∈ u_ws Cn T N, w ∈ xT) (hk : k0 < N) (hT : (T k0).2.1 = nm ∧ (T k0).2.2.1 = ds ∧ (T k0).1 = ref) (hl9 : Cond.fieldLink own index ref nm ds ∈ xT) (htys : ∀ k, k < N → parseFieldDescriptor (T k).2.2.1 = some (tys k)) (hnm : ∀ a, a < N → ∀ b, b < N → a ≠ b → (T a).2.1 ≠ (T b).2.1) (hfin : (T k0).2.2.2 = false) (hds : parseFieldDescriptor ds = some .boolean) (hg : xpZ w a ci k0 x = some w1) (k : Wx K cx nL n (pc + 3) L st w1) : Wx K cx nL n pc L (.int x :: .ref a :: st) w := by
  obtain ⟨p, l, e, R, s, m, args, below, meth, c, Q, A, cells, slots⟩ := K
  obtain ⟨hx, hb, hml, hown, hts, hG, hn0, hi, hA, hA0, hfr, hlo, hce, hsl⟩ := B
  intro H locs ls hn hP hS hl
  obtain ⟨h01, hg2⟩ : (x = 0 ∨ x = 1) ∧ xpI w a ci k0 x = some w1 := by
    unfold xpZ at hg
    split at hg
    next q => exact ⟨q, hg⟩
    next => cases hg
  obtain ⟨fs, e1, e2, e3⟩ := xpI_at hg2
  have hxa : xa cx a = xad cx a := xa_w (by have := xlt e1; omega)
  have hD : va_D A (xw cx w) := xD_B (K := (p, l, e, R, s, m, args, below, meth, c, Q, A, cells, slots)) hn hi hA
  exact va_put (cl := xCl) (C := Cn) (T := T) (N := N) (ref := ref) (index := index) (v := .int x) (ty := .boolean) (a := xa cx a) hx hb hts hws tys htys hnm hown hG.1 hP hD hS a (by rw [hxa]; exact xw_at e1) hcl k0 hk (by rw [hT.1, hT.2.1]; exact hts _ hl9) (by rw [hT.1, hT.2.1, hT.2.2]; exact fun _ h9 => h9) hfin (by rw [hT.2.1]; exact hds) (by rcases h01 with rfl | rfl <;> decide +kernel) (by rcases h01 with rfl | rfl <;> decide +kernel) (by rw [List.length_map]; exact e2) hd (fun H1 locs1 hP1 hD1 hS1 => k H1 locs1 ls (by rw [e3, List.length_set]; exact hn) (by
      rw [e3, ← xw_set]
      rw [hxa] at hP1
      show va_P _ _ ((xw cx w).set a (xad cx a, .inr (ci, (fs.set k0 (.int x)).map (xv cx)))) _
      rw [List.map_set]
      exact hP1) hS1 hl)
theorem xaI_at {a : Nat} {i x : Int32} (h : xaI w a i = some x) : ∃ n0 f, w[a]? = some (.inl (0, n0, f)) ∧ vp_in i n0 ∧ x = f i.toNatClampNeg := by
  unfold xaI at h
  split at h
  next n0 f e =>
    split at h
    next => cases h
    next q => cases h; exact ⟨n0, f, e, q, rfl⟩
  next => cases h
theorem xaZ_at {a : Nat} {i x : Int32} (h : xaZ w a i = some x) : ∃ n0 f, w[a]? = some (.inl (1, n0, f)) ∧ vp_in i n0 ∧ x = f i.toNatClampNeg := by
  unfold xaZ at h
  split at h
  next n0 f e =>
    split at h
    next => cases h
    next q => cases h; exact ⟨n0, f, e, q, rfl⟩
  next => cases h
theorem xsI_at {a : Nat} {i x : Int32} {w1 : XW} (h : xsI w a i x = some w1) : ∃ n0 f, w[a]? = some (.inl (0, n0, f)) ∧ vp_in i n0 ∧ w1 = w.set a (.inl (0, n0, xct n0 (upd f i.toNatClampNeg x))) := by
  unfold xsI at h
  split at h
  next n0 f e =>
    split at h
    next => cases h
    next q => cases h; exact ⟨n0, f, e, q, rfl⟩
  next => cases h
theorem xsZ_at {a : Nat} {i x : Int32} {w1 : XW} (h : xsZ w a i x = some w1) : ∃ n0 f, w[a]? = some (.inl (1, n0, f)) ∧ vp_in i n0 ∧ (x = 0 ∨ x = 1) ∧ w1 = w.set a (.inl (1, n0, xct n0 (upd f i.toNatClampNeg x))) := by
  unfold xsZ at h
  split at h
  next n0 f e =>
    split at h
    next => cases h
    next q => cases h; exact ⟨n0, f, e, fun z => q (z.elim Or.inl (fun z => Or.inr (Or.inl z))), Classical.not_not.mp (fun z => q (Or.inr (Or.inr z))), rfl⟩
  next => cases h
theorem xaL_at {a : Nat} {x : Int32} (h : xaL w a = some x) : ∃ kd n0 f, w[a]? = some (.inl (kd, n0, f)) ∧ (kd = 0 ∨ kd = 1) ∧ x = Int32.ofNat n0 := by
  unfold xaL at h
  split at h
  next n0 f e => cases h; exact ⟨0, n0, f, e, Or.inl rfl, rfl⟩
  next n0 f e => cases h; exact ⟨1, n0, f, e, Or.inr rfl, rfl⟩
  next => cases h
theorem xis_at {a ci : Nat} (h : xis w a ci = true) : ∃ fs, w[a]? = some (.inr (ci, fs)) := by
  unfold xis at h
  split at h
  next c1 fs e => exact ⟨fs, by rw [e, beq_iff_eq.mp h]⟩
  next => cases h
theorem xcp_at {a b : Nat} {sp dp k0 : Int32} {w1 : XW} (h : xcp w a sp b dp k0 = some w1) : ∃ n0 f n1 g, w[a]? = some (.inl (0, n0, f)) ∧ w[b]? = some (.inl (0, n1, g)) ∧ ¬ sp < 0 ∧ ¬ dp < 0 ∧ ¬ k0 < 0 ∧ sp.toNatClampNeg + k0.toNatClampNeg ≤ n0 ∧ dp.toNatClampNeg + k0.toNatClampNeg ≤ n1 ∧ w1 = w.set b (.inl (0, n1, xct n1 (va_cpy f g sp.toNatClampNeg dp.toNatClampNeg k0.toNatClampNeg))) := by
  unfold xcp at h
  split at h
  next n0 f n1 g e1 e2 =>
    split at h
    next => cases h
    next q =>
      cases h
      simp only [not_or, Nat.not_lt] at q
      exact ⟨n0, f, n1, g, e1, e2, q.1, q.2.1, q.2.2.1, q.2.2.2.1, q.2.2.2.2, rfl⟩
  next => cases h
theorem x_iald {a : Nat} {i x : Int32} (B : XB K cx own bytes nL n fr lo) (hd : decode bytes pc = .ok (.iaload, 1)) (hg : xaI w a i = some x) (k : Wx K cx nL n (pc + 1) L (.int x :: st) w) : Wx K cx nL n pc L (.int i :: .ref a :: st) w := by
  obtain ⟨p, l, e, R, s, m, args, below, meth, c, Q, A, cells, slots⟩ := K
  obtain ⟨hx, hb, hml, hown, hts, hG, hn0, hi, hA, hA0, hfr, hlo, hce, hsl⟩ := B
  intro H locs ls hn hP hS hl
  obtain ⟨n0, f, e1, e2, rfl⟩ := xaI_at hg
  have hxa : xa cx a = xad cx a := xa_w (by have := xlt e1; omega)
  exact va_iald (cl := xCl) (a := xa cx a) hx hb hG.1 hP a 0 (by rw [hxa]; exact xw_at e1) rfl e2 hd (k H locs ls hn hP hS hl)
theorem x_zald {a : Nat} {i x : Int32} (B : XB K cx own bytes nL n fr lo) (hd : decode bytes pc = .ok (.baload, 1)) (hg : xaZ w a i = some x) (k : Wx K cx nL n (pc + 1) L (.int x :: st) w) : Wx K cx nL n pc L (.int i :: .ref a :: st) w := by
  obtain ⟨p, l, e, R, s, m, args, below, meth, c, Q, A, cells, slots⟩ := K
  obtain ⟨hx, hb, hml, hown, hts, hG, hn0, hi, hA, hA0, hfr, hlo, hce, hsl⟩ := B
  intro H locs ls hn hP hS hl
  obtain ⟨n0, f, e1, e2, rfl⟩ := xaZ_at hg
  have hxa : xa cx a = xad cx a := xa_w (by have := xlt e1; omega)
  exact va_zald (cl := xCl) (a := xa cx a) hx hb hG.1 hP a 1 (by rw [hxa]; exact xw_at e1) rfl e2 hd (k H locs ls hn hP hS hl)
theorem x_iast {a : Nat} {i x : Int32} {w1 : XW} (B : XB K cx own bytes nL n fr lo) (hd : decode bytes pc = .ok (.iastore, 1)) (hg : xsI w a i x = some w1) (k : Wx K cx nL n (pc + 1) L st w1) : Wx K cx nL n pc L (.int x :: .int i :: .ref a :: st) w := by
  obtain ⟨p, l, e, R, s, m, args, below, meth, c, Q, A, cells, slots⟩ := K
  obtain ⟨hx, hb, hml, hown, hts, hG, hn0, hi, hA, hA0, hfr, hlo, hce, hsl⟩ := B
  intro H locs ls hn hP hS hl
  obtain ⟨n0, f, e1, e2, e3⟩ := xsI_at hg
  have hxa : xa cx a = xad cx a := xa_w (by have := xlt e1; omega)
  have hD : va_D A (xw cx w) := xD_B (K := (p, l, e, R, s, m, args, below, meth, c, Q, A, cells, slots)) hn hi hA
  exact va_iast (cl := xCl) (a := xa cx a) hx hb hG.1 hP hD hS a 0 (by rw [hxa]; exact xw_at e1) rfl e2 hd (fun H1 locs1 hP1 hD1 hS1 => k H1 locs1 ls (by rw [e3, List.length_set]; exact hn) (by rw [e3, ← xw_set, ← hxa]; exact xct_P hP1) hS1 hl)
theorem x_zast {a : Nat} {i x : Int32} {w1 : XW} (B : XB K cx own bytes nL n fr lo) (hd : decode bytes pc = .ok (.bastore, 1)) (hg : xsZ w a i x = some w1) (k : Wx K cx nL n (pc + 1) L st w1) : Wx K cx nL n pc L (.int x :: .int i :: .ref a :: st) w := by
  obtain ⟨p, l, e, R, s, m, args, below, meth, c, Q, A, cells, slots⟩ := K
  obtain ⟨hx, hb, hml, hown, hts, hG, hn0, hi, hA, hA0, hfr, hlo, hce, hsl⟩ := B
  intro H locs ls hn hP hS hl
  obtain ⟨n0, f, e1, e2, e4, e3⟩ := xsZ_at hg
  have hxa : xa cx a = xad cx a := xa_w (by have := xlt e1; omega)
  have hD : va_D A (xw cx w) := xD_B (K := (p, l, e, R, s, m, args, below, meth, c, Q, A, cells, slots)) hn hi hA
  exact va_zast (cl := xCl) (a := xa cx a) hx hb hG.1 hP hD hS a 1 (by rw [hxa]; exact xw_at e1) rfl e2 hd (fun H1 locs1 hP1 hD1 hS1 => k H1 locs1 ls (by rw [e3, List.length_set]; exact hn) (by rw [e3, ← xw_set, ← hxa]; rw [show vp_nar .boolean x = x from by rcases e4 with rfl | rfl <;> decide +kernel] at hP1; exact xct_P hP1) hS1 hl)
theorem x_alen {a : Nat} {x : Int32} (B : XB K cx own bytes nL n fr lo) (hd : decode bytes pc = .ok (.arraylength, 1)) (hg : xaL w a = some x) (k : Wx K cx nL n (pc + 1) L (.int x :: st) w) : Wx K cx nL n pc L (.ref a :: st) w := by
  obtain ⟨p, l, e, R, s, m, args, below, meth, c, Q, A, cells, slots⟩ := K
  obtain ⟨hx, hb, hml, hown, hts, hG, hn0, hi, hA, hA0, hfr, hlo, hce, hsl⟩ := B
  intro H locs ls hn hP hS hl
  obtain ⟨kd, n0, f, e1, e2, e3⟩ := xaL_at hg
  have hxa : xa cx a = xad cx a := xa_w (by have := xlt e1; omega)
  exact va_alen (cl := xCl) (a := xa cx a) hx hb hG.1 hP a kd (by rw [hxa]; exact xw_at e1) (ty := if kd = 0 then .int else .boolean) (by rcases e2 with rfl | rfl <;> rfl) e3.symm hd (k H locs ls hn hP hS hl)
theorem x_copy {index a b : Nat} {sp dp k0 : Int32} {w1 : XW} (B : XB K cx own bytes nL n fr lo) (hd : decode bytes pc = .ok (.invokestatic index, 3)) (hl9 : Cond.methodLink own index arraycopyName ∈ xT) (hfr9 : 1 ≤ fr) (hlo9 : (st.map fun v => v.category).sum + (nativeFrameWords "java/lang/System" "arraycopy" 5 + 11) ≤ lo) (hg : xcp w a sp b dp k0 = some w1) (k : Wx K cx nL n (pc + 3) L st w1) : Wx K cx nL n pc L (.int k0 :: .int dp :: .ref b :: .int sp :: .ref a :: st) w := by
  obtain ⟨p, l, e, R, s, m, args, below, meth, c, Q, A, cells, slots⟩ := K
  obtain ⟨hx, hb, hml, hown, hts, hG, hn0, hi, hA, hA0, hfr, hlo, hce, hsl⟩ := B
  intro H locs ls hn hP hS hl
  obtain ⟨n0, f, n1, g, e1, e2, e3, e4, e5, e6, e7, e8⟩ := xcp_at hg
  have hxa : xa cx a = xad cx a := xa_w (by have := xlt e1; omega)
  have hxb : xa cx b = xad cx b := xa_w (by have := xlt e2; omega)
  have hD : va_D A (xw cx w) := xD_B (K := (p, l, e, R, s, m, args, below, meth, c, Q, A, cells, slots)) hn hi hA
  exact va_copyi (cl := xCl) (a := xa cx b) (a0 := xa cx a) (ty := .int) hx hb (by rw [hml]; exact hl.1.symm) hown (hts _ hl9) (hts _ xt_162) (hts _ xt_161) (hts _ xt_59) hG.1 hP hD hS a b 0 0 (by rw [hxa]; exact xw_at e1) (by rw [hxb]; exact xw_at e2) rfl rfl rfl e3 e4 e5 e6 e7 (fun _ _ => rfl) (Nat.le_trans hfr9 hfr) (Nat.le_trans (by rw [List.map_map]; rw [show ((fun v : Value => v.category) ∘ xv cx) = (fun v => v.category) from funext (xv_cat cx)]; exact hlo9) hlo) hd (fun H1 locs1 hP1 hD1 hS1 => k H1 locs1 ls (by rw [e8, List.length_set]; exact hn) (by rw [e8, ← xw_set, ← hxb]; exact xct_P hP1) hS1 hl)
/-- a String constant's bytes, their length, one of them -/
def xsv (a : Nat) : Option Nat := if 1000 ≤ a ∧ a < 1006 then some (a + 1000) else none
def xis' (a : Nat) : Bool := decide (1000 ≤ a ∧ a < 1006)
def xbl (a : Nat) : Option Int32 := if 2000 ≤ a ∧ a < 2006 then some (Int32.ofNat (xSn.getD (a - 2000) 0)) else none
def xbb (a : Nat) (i : Int32) : Option Int32 := if 2000 ≤ a ∧ a < 2006 ∧ 0 ≤ i ∧ i.toNatClampNeg < xSn.getD (a - 2000) 0 then some ((xSb.getD (a - 2000) []).getD i.toNatClampNeg 0) else none
theorem xK {a lo9 : Nat} (h1 : lo9 ≤ a) (h2 : a < lo9 + 6) : ∃ i, i < 6 ∧ a = lo9 + i := ⟨a - lo9, by omega, by omega⟩
theorem x_sval {index a b : Nat} (B : XB K cx own bytes nL n fr lo) (hd : decode bytes pc = .ok (.getfield index, 3)) (hl9 : Cond.fieldLink own index "java/lang/String" "value" "[B" ∈ xT) (hg : xsv a = some b) (k : Wx K cx nL n (pc + 3) L (.ref b :: st) w) : Wx K cx nL n pc L (.ref a :: st) w := by
  obtain ⟨p, l, e, R, s, m, args, below, meth, c, Q, A, cells, slots⟩ := K
  obtain ⟨hx, hb, hml, hown, hts, hG, hn0, hi, hA, hA0, hfr, hlo, hce, hsl⟩ := B
  intro H locs ls hn hP hS hl
  obtain ⟨i, hi9, rfl, rfl⟩ : ∃ i, i < 6 ∧ a = 1000 + i ∧ b = 2000 + i := by
    unfold xsv at hg
    split at hg
    next q => cases hg; exact ⟨a - 1000, by omega, by omega, by omega⟩
    next => cases hg
  exact vk_getf (q := xa cx (1000 + i)) (v := .ref (xa cx (2000 + i))) hx hb (by rw [xa_s (by omega), xa_b (by omega)]; exact (hG.2.2.1.1 i hi9).2.2.1) hS hown (hts _ hl9) (fun _ h9 => h9) hd (k H locs ls hn hP hS hl)
theorem x_scod {index a : Nat} (B : XB K cx own bytes nL n fr lo) (hd : decode bytes pc = .ok (.getfield index, 3)) (hl9 : Cond.fieldLink own index "java/lang/String" "coder" "B" ∈ xT) (hg : xis' a = true) (k : Wx K cx nL n (pc + 3) L (.int 0 :: st) w) : Wx K cx nL n pc L (.ref a :: st) w := by
  obtain ⟨p, l, e, R, s, m, args, below, meth, c, Q, A, cells, slots⟩ := K
  obtain ⟨hx, hb, hml, hown, hts, hG, hn0, hi, hA, hA0, hfr, hlo, hce, hsl⟩ := B
  intro H locs ls hn hP hS hl
  obtain ⟨i, hi9, rfl⟩ : ∃ i, i < 6 ∧ a = 1000 + i := by
    have q := of_decide_eq_true hg
    exact xK q.1 (by omega)
  exact vk_getf (q := xa cx (1000 + i)) (v := .int 0) hx hb (by rw [xa_s (by omega)]; exact (hG.2.2.1.1 i hi9).2.1) hS hown (hts _ hl9) (fun _ h9 => h9) hd (k H locs ls hn hP hS hl)
theorem x_blen {a : Nat} {x : Int32} (B : XB K cx own bytes nL n fr lo) (hd : decode bytes pc = .ok (.arraylength, 1)) (hg : xbl a = some x) (k : Wx K cx nL n (pc + 1) L (.int x :: st) w) : Wx K cx nL n pc L (.ref a :: st) w := by
  obtain ⟨p, l, e, R, s, m, args, below, meth, c, Q, A, cells, slots⟩ := K
  obtain ⟨hx, hb, hml, hown, hts, hG, hn0, hi, hA, hA0, hfr, hlo, hce, hsl⟩ := B
  intro H locs ls hn hP hS hl
  obtain ⟨i, hi9, rfl, rfl⟩ : ∃ i, i < 6 ∧ a = 2000 + i ∧ x = Int32.ofNat (xSn.getD i 0) := by
    unfold xbl at hg
    split at hg
    next q =>
      have h8 := Option.some.inj hg
      subst h8
      obtain ⟨i, h1, rfl⟩ := xK (a := a) q.1 q.2
      exact ⟨i, h1, rfl, by rw [Nat.add_sub_cancel_left]⟩
    next => cases hg
  exact va_tlen (t := xa cx (2000 + i)) hx hb (by rw [xa_b (by omega)]; exact (hG.2.2.1.1 i hi9).2.2.2) hS (v := Int32.ofNat (xSn.getD i 0)) rfl hd (k H locs ls hn hP hS hl)
theorem x_bald {a : Nat} {i0 x : Int32} (B : XB K cx own bytes nL n fr lo) (hd : decode bytes pc = .ok (.baload, 1)) (hg : xbb a i0 = some x) (k : Wx K cx nL n (pc + 1) L (.int x :: st) w) : Wx K cx nL n pc L (.int i0 :: .ref a :: st) w := by
  obtain ⟨p, l, e, R, s, m, args, below, meth, c, Q, A, cells, slots⟩ := K
  obtain ⟨hx, hb, hml, hown, hts, hG, hn0, hi, hA, hA0, hfr, hlo, hce, hsl⟩ := B
  intro H locs ls hn hP hS hl
  obtain ⟨i, hi9, rfl, hin9, rfl⟩ : ∃ i, i < 6 ∧ a = 2000 + i ∧ vp_in i0 (xSn.getD i 0) ∧ x = (xSb.getD i []).getD i0.toNatClampNeg 0 := by
    unfold xbb at hg
    split at hg
    next q =>
      have h8 := Option.some.inj hg
      subst h8
      obtain ⟨i, h1, rfl⟩ := xK (a := a) q.1 q.2.1
      rw [Nat.add_sub_cancel_left] at q
      exact ⟨i, h1, rfl, fun z => z.elim (fun z => absurd q.2.2.1 (Int32.not_le.mpr z)) (fun z => absurd q.2.2.2 (Nat.not_lt.mpr z)), by rw [Nat.add_sub_cancel_left]⟩
    next => cases hg
  exact va_tb (t := xa cx (2000 + i)) (f := fun j => .int ((xSb.getD i []).getD j 0)) hx hb (by rw [xa_b (by omega)]; exact (hG.2.2.1.1 i hi9).2.2.2) hS hin9 rfl hd (k H locs ls hn hP hS hl)
theorem x_gsC {index : Nat} (B : XB K cx own bytes nL n fr lo) (hd : decode bytes pc = .ok (.getstatic index, 3)) (hl9 : Cond.fieldLink own index "java/lang/String" "COMPACT_STRINGS" "Z" ∈ xT) (k : Wx K cx nL n (pc + 3) L (.int 1 :: st) w) : Wx K cx nL n pc L st w := by
  obtain ⟨p, l, e, R, s, m, args, below, meth, c, Q, A, cells, slots⟩ := K
  obtain ⟨hx, hb, hml, hown, hts, hG, hn0, hi, hA, hA0, hfr, hlo, hce, hsl⟩ := B
  intro H locs ls hn hP hS hl
  exact va_gets (v := .int 1) hx hb hG.2.2.2.2.1 hS hown (hts _ hl9) (fun _ h9 => h9) hd (k H locs ls hn hP hS hl)
theorem x_gsF {index : Nat} (B : XB K cx own bytes nL n fr lo) (hd : decode bytes pc = .ok (.getstatic index, 3)) (hl9 : Cond.fieldLink own index "jdk/internal/util/Preconditions" "SIOOBE_FORMATTER" "Ljava/util/function/BiFunction;" ∈ xT) (k : ∀ v : Value, v.category = 1 → Wx K cx nL n (pc + 3) L (v :: st) w) : Wx K cx nL n pc L st w := by
  obtain ⟨p, l, e, R, s, m, args, below, meth, c, Q, A, cells, slots⟩ := K
  obtain ⟨hx, hb, hml, hown, hts, hG, hn0, hi, hA, hA0, hfr, hlo, hce, hsl⟩ := B
  intro H locs ls hn hP hS hl
  rcases hG.2.2.2.2.2 with hz | hz
  · exact va_gets (v := .null) hx hb hz hS hown (hts _ hl9) (fun _ h9 => h9) hd (k .null rfl H locs ls hn hP hS hl)
  · exact va_gets (v := .ref (xaF cx)) hx hb hz hS hown (hts _ hl9) (fun _ h9 => h9) hd (k (.ref 3000) rfl H locs ls hn hP hS hl)
theorem x_iret {ret : Option FieldType} {v : Int32} {R9 : Int32 × XW} (B : XB K cx own bytes nL n fr lo) (hR : XR K cx n ret (some (.int R9.1)) R9.2) (hd : decode bytes pc = .ok (.ireturn, 1)) (hret : ∃ ty, ret = some ty ∧ narrow ty (.int v) = .int v) (h : some (v, w) = some R9) : Wx K cx nL n pc L [.int v] w := by
  cases h
  obtain ⟨p, l, e, R, s, m, args, below, meth, c, Q, A, cells, slots⟩ := K
  obtain ⟨hx, hb, hml, hown, hts, hG, hn0, hi, hA, hA0, hfr, hlo, hce, hsl⟩ := B
  intro H locs ls hn hP hS hl
  obtain ⟨hr, hlk, rfl⟩ := hR
  obtain ⟨ty, rfl, hnar⟩ := hret
  exact W.zret hx hb hr hnar (fun t ht hW => ⟨rfl, hn, by rw [ht]; exact hP, hS.F ht⟩) hS.2.2 hd (hlocks := hlk)
theorem x_aret {v : Nat} {nm : String} {R9 : Nat × XW} (B : XB K cx own bytes nL n fr lo) (hR : XR K cx n (some (.object nm)) (some (.ref R9.1)) R9.2) (hd : decode bytes pc = .ok (.areturn, 1)) (h : some (v, w) = some R9) : Wx K cx nL n pc L [.ref v] w := by
  cases h
  obtain ⟨p, l, e, R, s, m, args, below, meth, c, Q, A, cells, slots⟩ := K
  obtain ⟨hx, hb, hml, hown, hts, hG, hn0, hi, hA, hA0, hfr, hlo, hce, hsl⟩ := B
  intro H locs ls hn hP hS hl
  obtain ⟨hr, hlk, rfl⟩ := hR
  exact W.aret hx hb hr (Or.inl ⟨nm, rfl⟩) (Or.inr ⟨_, rfl⟩) (fun t ht hW => ⟨rfl, hn, by rw [ht]; exact hP, hS.F ht⟩) hS.2.2 hd (hlocks := hlk)
theorem x_vret {R9 : XW} (B : XB K cx own bytes nL n fr lo) (hR : XR K cx n none none R9) (hd : decode bytes pc = .ok (.return_, 1)) (h : some w = some R9) : Wx K cx nL n pc L [] w := by
  cases h
  obtain ⟨p, l, e, R, s, m, args, below, meth, c, Q, A, cells, slots⟩ := K
  obtain ⟨hx, hb, hml, hown, hts, hG, hn0, hi, hA, hA0, hfr, hlo, hce, hsl⟩ := B
  intro H locs ls hn hP hS hl
  obtain ⟨hr, hlk, rfl⟩ := hR
  exact W.vret hx hb hr (fun t ht hW => ⟨rfl, hn, by rw [ht]; exact hP, hS.F ht⟩) hS.2.2 hd (hlocks := hlk)
/-- behind a call: what came back goes on -/
theorem x_back {p : Program} {l : Launch} {e : Env} {R : Room} {s : State} {m : MethodId} {args : Array Value} {below : List Frame} {meth : Method} {c : Code} {Q : State → Prop} {A : Nat → Prop} {cells slots : Nat} {H : Heap} {locs : List Loc} {ls : Array Slot} {A1 : Nat → Prop} {a : Array Value} {r : Option Value} {w1 : XW} {rest st0 : List Value}
    (hr : va_Run p l e R s m args below meth c H locs cells slots 0 0 (F0 m pc ls st0) rest (xQ cx r w1 n A1 a) A1) (hS : va_S A s.heap H locs) (hA1 : ∀ q, A1 q → A q)
    (k : ∀ (H1 : Heap) (locs1 : List Loc), w1.length = n → va_P (xG0 cx) xCl (xw cx w1) H1 → va_S A s.heap H1 locs1 → W p l e R s m args below meth c H1 locs1 cells slots Q (F0 m (pc + 3) ls ((r.map (xv cx)).toList ++ rest))) : W p l e R s m args below meth c H locs cells slots Q (F0 m pc ls st0) := by
  intro T hT X
  obtain ⟨v, st₀, t, T', L9, h0, X', hL, e1, e2, ⟨hv, hle, hp, hz, hk⟩, st⟩ := hr T hT X
  cases hv
  rw [h0] at hz hk
  obtain ⟨t2, a1, b1⟩ := k T'.heap (locs ++ L9) hle (by rw [e1]; exact hp) ⟨Nat.le_trans hS.1 (by rw [e1]; exact hz), fun q h1 h2 => by rw [e1, hk q (Nat.lt_of_lt_of_le h1 hS.1) (fun z => h2 (hA1 q z))]; exact hS.2.1 q h1 h2, fun q hq => by
      rcases List.mem_append.mp hq with h | h
      · exact hS.2.2 q h
      · exact hA1 _ (hL q h)⟩ T' rfl X'
  exact ⟨t2, st t2 a1, b1⟩
theorem xA_in {A : Nat → Prop} {s : State} {H : Heap} {locs : List Loc} (hn : w.length = n) (hA : ∀ i, i < n → A (xad cx i)) (hA0 : ∀ q, s.heap.size ≤ q → A q) (hS : va_S A s.heap H locs) : ∀ q, va_A (xw cx w) H.size q → A q := by
  intro q hq
  rcases hq with ⟨k, e, h⟩ | h
  · have hk : k < w.length := by rw [← xw_len cx w]; exact (List.getElem?_eq_some_iff.mp h).1
    rw [xw_at (List.getElem?_eq_getElem hk)] at h
    have := congrArg Prod.fst (Option.some.inj h)
    simp only at this
    rw [← this]; exact hA k (by omega)
  · exact hA0 q (Nat.le_trans hS.1 h)
theorem xblind (av : List Value) (sz : Nat) : FrameBlind (va_Pc (av.map (xv cx)) (fun U => w.length ≤ 1000 ∧ U.heap.size = sz ∧ xG cx (va_A (xw cx w) sz) U ∧ va_P (xG0 cx) xCl (xw cx w) U.heap ∧ va_D (fun _ => True) (xw cx w))) := by
  intro a U g mk h
  obtain ⟨h0, h1, h2, h3, h4, h5⟩ := h
  exact ⟨h0, h1, h2, xG_call g mk a h3, h4, h5⟩
theorem xcode_good {y : MethodName} {bs : ByteArray} {mL : Nat} {rt : Option FieldType} {cw : Cond} (hcw : cw ∈ xT) : GoodIn xT (cw :: xT) := by
  intro w hw
  have h : w ∈ xT := by
    rcases List.mem_cons.mp hw with rfl | h
    · exact hcw
    · exact h
  exact ⟨h, good_of_word (List.mem_filter.mp h).2⟩
theorem xws_ok {args : Array Value} {s : State} {cw : Cond} (hts : ∀ w ∈ xT, w.before args s = true) (hcw : cw ∈ xT) : ∀ w ∈ cw :: xT, ∀ (a' : Array Value) (U : State), s.WarmedH U.vm → w.before a' U = true :=
  pay_in hts (xcode_good (y := ⟨"", "", ""⟩) (bs := .empty) (mL := 0) (rt := none) hcw)
theorem x_callS {index : Nat} {y : MethodName} {bs : ByteArray} {mL fr1 lo1 : Nat} {rt : Option FieldType} {av : List Value} {r : Option Value} {w1 : XW} (B : XB K cx own bytes nL n fr lo) (hd : decode bytes pc = .ok (.invokestatic index, 3)) (hC : Ct y bs mL rt fr1 lo1 cx av w r w1) (hcw : Cond.code y bs mL rt ∈ xT) (hini : Cond.initialized y.cls ∈ xT) (hnp : (parseMethodDescriptor y.desc).map (fun d => d.parameters.length) = some av.length) (hy : y.cls ≠ "java/lang/invoke/MethodHandle" ∧ y.cls ≠ "java/lang/invoke/VarHandle") (hfr9 : fr1 + 1 ≤ fr) (hlo9 : 8 + (mL + 11) + lo1 ≤ lo) (hst : (st.map fun v => v.category).sum ≤ 8) (hstt : Cond.static y ∈ xT) (hl9 : Cond.methodLink own index y ∈ xT) {st1 : List Value} (hs1 : av.reverse ++ st = st1) (k : Wx K cx nL n (pc + 3) L (r.toList ++ st) w1) : Wx K cx nL n pc L st1 w := by
  subst hs1
  obtain ⟨p, l, e, R, s, m, args, below, meth, c, Q, A, cells, slots⟩ := K
  obtain ⟨hx, hb, hml, hown, hts, hG, hn0, hi, hA, hA0, hfr, hlo, hce, hsl⟩ := B
  intro H locs ls hn hP hS hl
  have hA1 := xA_in (s := s) hn hA hA0 hS
  have hD : va_D A (xw cx w) := xD_B (K := (p, l, e, R, s, m, args, below, meth, c, Q, A, cells, slots)) hn hi hA
  have hpre : ∀ U : State, U.heap = H → s.WarmedH U.vm → w.length ≤ 1000 ∧ U.heap.size = H.size ∧ xG cx (va_A (xw cx w) H.size) U ∧ va_P (xG0 cx) xCl (xw cx w) U.heap ∧ va_D (fun _ => True) (xw cx w) := fun U hU hW => ⟨by omega, by rw [hU], xG_warm hG (by rw [hU]; exact hS) hA1 hW, by rw [hU]; exact hP, hD.weaken (fun _ _ _ _ => trivial)⟩
  have hsum : ((st.map (xv cx)).map fun v => v.category).sum ≤ 8 := by
    rw [List.map_map, show ((fun v : Value => v.category) ∘ xv cx) = (fun v => v.category) from funext (xv_cat cx)]
    exact hst
  have hpar : ∀ sig, parseMethodDescriptor y.desc = some sig → av.length = sig.parameters.length := by
    intro sig h
    rw [h] at hnp
    exact (Option.some.inj hnp).symm
  have hrun := va_runS (e := e) (below := below) (meth := meth) (locs := locs) (As := av.map (xv cx)) (rest := st.map (xv cx)) (g := F0 m pc ls ((av.reverse ++ st).map (xv cx))) ⟨hx, hb, hml, hown, hts⟩ (hC l H.size) ⟨(⟨rfl, rfl, Nat.le_trans hfr9 hfr, Nat.le_trans hlo9 hlo, xws_ok hts hcw, List.mem_cons_self, hts _ hcw, hts _ hini, hy, by rw [List.length_map]; exact hpar, hts _ hl9⟩ : CallB R s args own index y bs mL rt (.code y bs mL rt :: xT) { frames := fr1, cells := 0, slots := 0, locals := lo1 } 0 0 (av.map (xv cx)).length), hts _ hstt⟩ ⟨xblind av H.size, fun U hU hW => ⟨rfl, hpre U hU hW⟩⟩ rfl rfl hl.1 (by rw [List.map_append, List.map_reverse]) (lv_room hsum) hd ⟨hce, hsl⟩
  refine x_back (cx := cx) (r := r) (w1 := w1) (n := w.length) hrun hS hA1 (fun H1 locs1 hn1 hP1 hS1 => ?_)
  have h9 := k H1 locs1 ls (by rw [hn1]; exact hn) hP1 hS1 hl
  rw [List.map_append] at h9
  cases r with
  | none => exact h9
  | some v => exact h9
theorem x_callSN {index : Nat} {y : MethodName} {bs : ByteArray} {mL fr1 lo1 : Nat} {rt : Option FieldType} {av : List Value} {r : Option Value} {w1 : XW} (B : XB K cx own bytes nL n fr lo) (hd : decode bytes pc = .ok (.invokestatic index, 3)) (hC : Ct y bs mL rt fr1 lo1 cx av w r w1) (hcw : Cond.code y bs mL rt ∈ xT) (hini : Cond.initialized y.cls ∈ xT) (hnp : (parseMethodDescriptor y.desc).map (fun d => d.parameters.length) = some av.length) (hy : y.cls ≠ "java/lang/invoke/MethodHandle" ∧ y.cls ≠ "java/lang/invoke/VarHandle") (hfr9 : fr1 + 1 ≤ fr) (hlo9 : 8 + (mL + 11) + lo1 ≤ lo) (hst : (st.map fun v => v.category).sum ≤ 8) (hstt : Cond.static y ∈ xT) {host : String} (hl9 : (own, index, y, host) ∈ xNs) {st1 : List Value} (hs1 : av.reverse ++ st = st1) (k : Wx K cx nL n (pc + 3) L (r.toList ++ st) w1) : Wx K cx nL n pc L st1 w := by
  subst hs1
  obtain ⟨p, l, e, R, s, m, args, below, meth, c, Q, A, cells, slots⟩ := K
  obtain ⟨hx, hb, hml, hown, hts, hG, hn0, hi, hA, hA0, hfr, hlo, hce, hsl⟩ := B
  intro H locs ls hn hP hS hl
  have hA1 := xA_in (s := s) hn hA hA0 hS
  have hD : va_D A (xw cx w) := xD_B (K := (p, l, e, R, s, m, args, below, meth, c, Q, A, cells, slots)) hn hi hA
  have hpre : ∀ U : State, U.heap = H → s.WarmedH U.vm → w.length ≤ 1000 ∧ U.heap.size = H.size ∧ xG cx (va_A (xw cx w) H.size) U ∧ va_P (xG0 cx) xCl (xw cx w) U.heap ∧ va_D (fun _ => True) (xw cx w) := fun U hU hW => ⟨by omega, by rw [hU], xG_warm hG (by rw [hU]; exact hS) hA1 hW, by rw [hU]; exact hP, hD.weaken (fun _ _ _ _ => trivial)⟩
  have hsum : ((st.map (xv cx)).map fun v => v.category).sum ≤ 8 := by
    rw [List.map_map, show ((fun v : Value => v.category) ∘ xv cx) = (fun v => v.category) from funext (xv_cat cx)]
    exact hst
  have hpar : ∀ sig, parseMethodDescriptor y.desc = some sig → av.length = sig.parameters.length := by
    intro sig h
    rw [h] at hnp
    exact (Option.some.inj hnp).symm
  have hrun := va_runSN (e := e) (below := below) (meth := meth) (locs := locs) (As := av.map (xv cx)) (rest := st.map (xv cx)) (g := F0 m pc ls ((av.reverse ++ st).map (xv cx))) ⟨hx, hb, hml, hown, hts⟩ (hC l H.size) ⟨(⟨⟨rfl, rfl, Nat.le_trans hfr9 hfr, Nat.le_trans hlo9 hlo, xws_ok hts hcw, List.mem_cons_self⟩, hts _ hcw, hts _ hini, hy, by rw [List.length_map]; exact hpar, va_Nw.use rfl (hG.2.1 _ hl9)⟩ : va_CN R s args own index y host bs mL rt (.code y bs mL rt :: xT) { frames := fr1, cells := 0, slots := 0, locals := lo1 } 0 0 (av.map (xv cx)).length), hts _ hstt, trivial⟩ ⟨xblind av H.size, fun U hU hW => ⟨rfl, hpre U hU hW⟩⟩ rfl rfl hl.1 (by rw [List.map_append, List.map_reverse]) (lv_room hsum) hd ⟨hce, hsl⟩
  refine x_back (cx := cx) (r := r) (w1 := w1) (n := w.length) hrun hS hA1 (fun H1 locs1 hn1 hP1 hS1 => ?_)
  have h9 := k H1 locs1 ls (by rw [hn1]; exact hn) hP1 hS1 hl
  rw [List.map_append] at h9
  cases r with
  | none => exact h9
  | some v => exact h9
theorem x_callV {index : Nat} {y : MethodName} {bs : ByteArray} {mL fr1 lo1 : Nat} {rt : Option FieldType} {av : List Value} {r : Option Value} {w1 : XW} {a : Nat} (B : XB K cx own bytes nL n fr lo) (hd : decode bytes pc = .ok (.invokevirtual index, 3)) (hC : Ct y bs mL rt fr1 lo1 cx (.ref a :: av) w r w1) (hcw : Cond.code y bs mL rt ∈ xT) (hini : Cond.initialized y.cls ∈ xT) (hnp : (parseMethodDescriptor y.desc).map (fun d => d.parameters.length) = some av.length) (hy : y.cls ≠ "java/lang/invoke/MethodHandle" ∧ y.cls ≠ "java/lang/invoke/VarHandle") (hfr9 : fr1 + 1 ≤ fr) (hlo9 : 8 + (mL + 11) + lo1 ≤ lo) (hst : (st.map fun v => v.category).sum ≤ 8) (hins : Cond.instanceMethod y ∈ xT) (hsel : Cond.selects y.cls y y ∈ xT) (hl9 : Cond.methodLink own index y ∈ xT) {ci N : Nat} {T : u_T} (hcl : xCl[ci]? = some (y.cls, T, N)) (hg : xis w a ci = true) {st1 : List Value} (hs1 : av.reverse ++ .ref a :: st = st1) (k : Wx K cx nL n (pc + 3) L (r.toList ++ st) w1) : Wx K cx nL n pc L st1 w := by
  subst hs1
  obtain ⟨p, l, e, R, s, m, args, below, meth, c, Q, A, cells, slots⟩ := K
  obtain ⟨hx, hb, hml, hown, hts, hG, hn0, hi, hA, hA0, hfr, hlo, hce, hsl⟩ := B
  intro H locs ls hn hP hS hl
  have hA1 := xA_in (s := s) hn hA hA0 hS
  have hD : va_D A (xw cx w) := xD_B (K := (p, l, e, R, s, m, args, below, meth, c, Q, A, cells, slots)) hn hi hA
  have hpre : ∀ U : State, U.heap = H → s.WarmedH U.vm → w.length ≤ 1000 ∧ U.heap.size = H.size ∧ xG cx (va_A (xw cx w) H.size) U ∧ va_P (xG0 cx) xCl (xw cx w) U.heap ∧ va_D (fun _ => True) (xw cx w) := fun U hU hW => ⟨by omega, by rw [hU], xG_warm hG (by rw [hU]; exact hS) hA1 hW, by rw [hU]; exact hP, hD.weaken (fun _ _ _ _ => trivial)⟩
  have hsum : ((st.map (xv cx)).map fun v => v.category).sum ≤ 8 := by
    rw [List.map_map, show ((fun v : Value => v.category) ∘ xv cx) = (fun v => v.category) from funext (xv_cat cx)]
    exact hst
  have hpar : ∀ sig, parseMethodDescriptor y.desc = some sig → av.length = sig.parameters.length := by
    intro sig h
    rw [h] at hnp
    exact (Option.some.inj hnp).symm
  obtain ⟨fs, e1⟩ := xis_at hg
  have hxa : xa cx a = xad cx a := xa_w (by have := xlt e1; omega)
  have hrecv := va_recv (q := (y.cls, T, N)) (a := xa cx a) hG.1 hP hcl (by rw [hxa]; exact xw_at e1)
  have hrun := va_runV (e := e) (below := below) (meth := meth) (locs := locs) (As := av.map (xv cx)) (rest := st.map (xv cx)) (g := F0 m pc ls ((av.reverse ++ .ref a :: st).map (xv cx))) (b := xa cx a) (C := y.cls) ⟨hx, hb, hml, hown, hts⟩ (hC l H.size) ⟨(⟨rfl, rfl, Nat.le_trans hfr9 hfr, Nat.le_trans hlo9 hlo, xws_ok hts hcw, List.mem_cons_self, hts _ hcw, hts _ hini, hy, by rw [List.length_map]; exact hpar, hts _ hl9⟩ : CallB R s args own index y bs mL rt (.code y bs mL rt :: xT) { frames := fr1, cells := 0, slots := 0, locals := lo1 } 0 0 (av.map (xv cx)).length), hts _ hins, hts _ hsel⟩ ⟨xblind (.ref a :: av) H.size, hrecv, fun U hU hW => ⟨rfl, hpre U hU hW⟩⟩ rfl rfl hl.1 (by rw [List.map_append, List.map_reverse]; rfl) (lv_room hsum) hd ⟨hce, hsl⟩
  refine x_back (cx := cx) (r := r) (w1 := w1) (n := w.length) hrun hS hA1 (fun H1 locs1 hn1 hP1 hS1 => ?_)
  have h9 := k H1 locs1 ls (by rw [hn1]; exact hn) hP1 hS1 hl
  rw [List.map_append] at h9
  cases r with
  | none => exact h9
  | some v => exact h9
theorem x_callVs {index : Nat} {y : MethodName} {bs : ByteArray} {mL fr1 lo1 : Nat} {rt : Option FieldType} {av : List Value} {r : Option Value} {w1 : XW} {a : Nat} (B : XB K cx own bytes nL n fr lo) (hd : decode bytes pc = .ok (.invokevirtual index, 3)) (hC : Ct y bs mL rt fr1 lo1 cx (.ref a :: av) w r w1) (hcw : Cond.code y bs mL rt ∈ xT) (hini : Cond.initialized y.cls ∈ xT) (hnp : (parseMethodDescriptor y.desc).map (fun d => d.parameters.length) = some av.length) (hy : y.cls ≠ "java/lang/invoke/MethodHandle" ∧ y.cls ≠ "java/lang/invoke/VarHandle") (hfr9 : fr1 + 1 ≤ fr) (hlo9 : 8 + (mL + 11) + lo1 ≤ lo) (hst : (st.map fun v => v.category).sum ≤ 8) (hins : Cond.instanceMethod y ∈ xT) (hsel : Cond.selects y.cls y y ∈ xT) (hl9 : Cond.methodLink own index y ∈ xT) (hyc : y.cls = "java/lang/String") (hg : xis' a = true) {st1 : List Value} (hs1 : av.reverse ++ .ref a :: st = st1) (k : Wx K cx nL n (pc + 3) L (r.toList ++ st) w1) : Wx K cx nL n pc L st1 w := by
  subst hs1
  obtain ⟨p, l, e, R, s, m, args, below, meth, c, Q, A, cells, slots⟩ := K
  obtain ⟨hx, hb, hml, hown, hts, hG, hn0, hi, hA, hA0, hfr, hlo, hce, hsl⟩ := B
  intro H locs ls hn hP hS hl
  have hA1 := xA_in (s := s) hn hA hA0 hS
  have hD : va_D A (xw cx w) := xD_B (K := (p, l, e, R, s, m, args, below, meth, c, Q, A, cells, slots)) hn hi hA
  have hpre : ∀ U : State, U.heap = H → s.WarmedH U.vm → w.length ≤ 1000 ∧ U.heap.size = H.size ∧ xG cx (va_A (xw cx w) H.size) U ∧ va_P (xG0 cx) xCl (xw cx w) U.heap ∧ va_D (fun _ => True) (xw cx w) := fun U hU hW => ⟨by omega, by rw [hU], xG_warm hG (by rw [hU]; exact hS) hA1 hW, by rw [hU]; exact hP, hD.weaken (fun _ _ _ _ => trivial)⟩
  have hsum : ((st.map (xv cx)).map fun v => v.category).sum ≤ 8 := by
    rw [List.map_map, show ((fun v : Value => v.category) ∘ xv cx) = (fun v => v.category) from funext (xv_cat cx)]
    exact hst
  have hpar : ∀ sig, parseMethodDescriptor y.desc = some sig → av.length = sig.parameters.length := by
    intro sig h
    rw [h] at hnp
    exact (Option.some.inj hnp).symm
  obtain ⟨i, hi9, hia⟩ : ∃ i, i < 6 ∧ a = 1000 + i := by
    have q := of_decide_eq_true hg
    exact xK q.1 (by omega)
  have hrecv : ∃ cell : Cell, H[xa cx a]? = some cell ∧ cell.vm.isStatics = false ∧ s.vm.findClass y.cls = some cell.cls := by
    rw [hia, xa_s (by omega), hyc]
    exact vk_recv hG.2.2.1 hi9 hS
  have hrun := va_runV (e := e) (below := below) (meth := meth) (locs := locs) (As := av.map (xv cx)) (rest := st.map (xv cx)) (g := F0 m pc ls ((av.reverse ++ .ref a :: st).map (xv cx))) (b := xa cx a) (C := y.cls) ⟨hx, hb, hml, hown, hts⟩ (hC l H.size) ⟨(⟨rfl, rfl, Nat.le_trans hfr9 hfr, Nat.le_trans hlo9 hlo, xws_ok hts hcw, List.mem_cons_self, hts _ hcw, hts _ hini, hy, by rw [List.length_map]; exact hpar, hts _ hl9⟩ : CallB R s args own index y bs mL rt (.code y bs mL rt :: xT) { frames := fr1, cells := 0, slots := 0, locals := lo1 } 0 0 (av.map (xv cx)).length), hts _ hins, hts _ hsel⟩ ⟨xblind (.ref a :: av) H.size, hrecv, fun U hU hW => ⟨rfl, hpre U hU hW⟩⟩ rfl rfl hl.1 (by rw [List.map_append, List.map_reverse]; rfl) (lv_room hsum) hd ⟨hce, hsl⟩
  refine x_back (cx := cx) (r := r) (w1 := w1) (n := w.length) hrun hS hA1 (fun H1 locs1 hn1 hP1 hS1 => ?_)
  have h9 := k H1 locs1 ls (by rw [hn1]; exact hn) hP1 hS1 hl
  rw [List.map_append] at h9
  cases r with
  | none => exact h9
  | some v => exact h9
theorem x_callS1 {v : Value} {index : Nat} {y : MethodName} {bs : ByteArray} {mL fr1 lo1 : Nat} {rt : Option FieldType} {av : List Value} {w1 : XW} (B : XB K cx own bytes nL n fr lo) (hd : decode bytes pc = .ok (.invokestatic index, 3)) (hC : Ct y bs mL rt fr1 lo1 cx av w (some v) w1) (hcw : Cond.code y bs mL rt ∈ xT) (hini : Cond.initialized y.cls ∈ xT) (hnp : (parseMethodDescriptor y.desc).map (fun d => d.parameters.length) = some av.length) (hy : y.cls ≠ "java/lang/invoke/MethodHandle" ∧ y.cls ≠ "java/lang/invoke/VarHandle") (hfr9 : fr1 + 1 ≤ fr) (hlo9 : 8 + (mL + 11) + lo1 ≤ lo) (hst : (st.map fun v => v.category).sum ≤ 8) (hstt : Cond.static y ∈ xT) (hl9 : Cond.methodLink own index y ∈ xT) {st1 : List Value} (hs1 : av.reverse ++ st = st1) (k : Wx K cx nL n (pc + 3) L (v :: st) w1) : Wx K cx nL n pc L st1 w := x_callS B hd hC hcw hini hnp hy hfr9 hlo9 hst hstt hl9 hs1 k
theorem x_callS0 {index : Nat} {y : MethodName} {bs : ByteArray} {mL fr1 lo1 : Nat} {rt : Option FieldType} {av : List Value} {w1 : XW} (B : XB K cx own bytes nL n fr lo) (hd : decode bytes pc = .ok (.invokestatic index, 3)) (hC : Ct y bs mL rt fr1 lo1 cx av w none w1) (hcw : Cond.code y bs mL rt ∈ xT) (hini : Cond.initialized y.cls ∈ xT) (hnp : (parseMethodDescriptor y.desc).map (fun d => d.parameters.length) = some av.length) (hy : y.cls ≠ "java/lang/invoke/MethodHandle" ∧ y.cls ≠ "java/lang/invoke/VarHandle") (hfr9 : fr1 + 1 ≤ fr) (hlo9 : 8 + (mL + 11) + lo1 ≤ lo) (hst : (st.map fun v => v.category).sum ≤ 8) (hstt : Cond.static y ∈ xT) (hl9 : Cond.methodLink own index y ∈ xT) {st1 : List Value} (hs1 : av.reverse ++ st = st1) (k : Wx K cx nL n (pc + 3) L st w1) : Wx K cx nL n pc L st1 w := x_callS B hd hC hcw hini hnp hy hfr9 hlo9 hst hstt hl9 hs1 k
theorem x_callSN1 {v : Value} {index : Nat} {y : MethodName} {bs : ByteArray} {mL fr1 lo1 : Nat} {rt : Option FieldType} {av : List Value} {w1 : XW} (B : XB K cx own bytes nL n fr lo) (hd : decode bytes pc = .ok (.invokestatic index, 3)) (hC : Ct y bs mL rt fr1 lo1 cx av w (some v) w1) (hcw : Cond.code y bs mL rt ∈ xT) (hini : Cond.initialized y.cls ∈ xT) (hnp : (parseMethodDescriptor y.desc).map (fun d => d.parameters.length) = some av.length) (hy : y.cls ≠ "java/lang/invoke/MethodHandle" ∧ y.cls ≠ "java/lang/invoke/VarHandle") (hfr9 : fr1 + 1 ≤ fr) (hlo9 : 8 + (mL + 11) + lo1 ≤ lo) (hst : (st.map fun v => v.category).sum ≤ 8) (hstt : Cond.static y ∈ xT) {host : String} (hl9 : (own, index, y, host) ∈ xNs) {st1 : List Value} (hs1 : av.reverse ++ st = st1) (k : Wx K cx nL n (pc + 3) L (v :: st) w1) : Wx K cx nL n pc L st1 w := x_callSN B hd hC hcw hini hnp hy hfr9 hlo9 hst hstt hl9 hs1 k
theorem x_callSN0 {index : Nat} {y : MethodName} {bs : ByteArray} {mL fr1 lo1 : Nat} {rt : Option FieldType} {av : List Value} {w1 : XW} (B : XB K cx own bytes nL n fr lo) (hd : decode bytes pc = .ok (.invokestatic index, 3)) (hC : Ct y bs mL rt fr1 lo1 cx av w none w1) (hcw : Cond.code y bs mL rt ∈ xT) (hini : Cond.initialized y.cls ∈ xT) (hnp : (parseMethodDescriptor y.desc).map (fun d => d.parameters.length) = some av.length) (hy : y.cls ≠ "java/lang/invoke/MethodHandle" ∧ y.cls ≠ "java/lang/invoke/VarHandle") (hfr9 : fr1 + 1 ≤ fr) (hlo9 : 8 + (mL + 11) + lo1 ≤ lo) (hst : (st.map fun v => v.category).sum ≤ 8) (hstt : Cond.static y ∈ xT) {host : String} (hl9 : (own, index, y, host) ∈ xNs) {st1 : List Value} (hs1 : av.reverse ++ st = st1) (k : Wx K cx nL n (pc + 3) L st w1) : Wx K cx nL n pc L st1 w := x_callSN B hd hC hcw hini hnp hy hfr9 hlo9 hst hstt hl9 hs1 k
theorem x_callV1 {v : Value} {index : Nat} {y : MethodName} {bs : ByteArray} {mL fr1 lo1 : Nat} {rt : Option FieldType} {av : List Value} {w1 : XW} {a : Nat} (B : XB K cx own bytes nL n fr lo) (hd : decode bytes pc = .ok (.invokevirtual index, 3)) (hC : Ct y bs mL rt fr1 lo1 cx (.ref a :: av) w (some v) w1) (hcw : Cond.code y bs mL rt ∈ xT) (hini : Cond.initialized y.cls ∈ xT) (hnp : (parseMethodDescriptor y.desc).map (fun d => d.parameters.length) = some av.length) (hy : y.cls ≠ "java/lang/invoke/MethodHandle" ∧ y.cls ≠ "java/lang/invoke/VarHandle") (hfr9 : fr1 + 1 ≤ fr) (hlo9 : 8 + (mL + 11) + lo1 ≤ lo) (hst : (st.map fun v => v.category).sum ≤ 8) (hins : Cond.instanceMethod y ∈ xT) (hsel : Cond.selects y.cls y y ∈ xT) (hl9 : Cond.methodLink own index y ∈ xT) {ci N : Nat} {T : u_T} (hcl : xCl[ci]? = some (y.cls, T, N)) (hg : xis w a ci = true) {st1 : List Value} (hs1 : av.reverse ++ .ref a :: st = st1) (k : Wx K cx nL n (pc + 3) L (v :: st) w1) : Wx K cx nL n pc L st1 w := x_callV B hd hC hcw hini hnp hy hfr9 hlo9 hst hins hsel hl9 hcl hg hs1 k
theorem x_callV0 {index : Nat} {y : MethodName} {bs : ByteArray} {mL fr1 lo1 : Nat} {rt : Option FieldType} {av : List Value} {w1 : XW} {a : Nat} (B : XB K cx own bytes nL n fr lo) (hd : decode bytes pc = .ok (.invokevirtual index, 3)) (hC : Ct y bs mL rt fr1 lo1 cx (.ref a :: av) w none w1) (hcw : Cond.code y bs mL rt ∈ xT) (hini : Cond.initialized y.cls ∈ xT) (hnp : (parseMethodDescriptor y.desc).map (fun d => d.parameters.length) = some av.length) (hy : y.cls ≠ "java/lang/invoke/MethodHandle" ∧ y.cls ≠ "java/lang/invoke/VarHandle") (hfr9 : fr1 + 1 ≤ fr) (hlo9 : 8 + (mL + 11) + lo1 ≤ lo) (hst : (st.map fun v => v.category).sum ≤ 8) (hins : Cond.instanceMethod y ∈ xT) (hsel : Cond.selects y.cls y y ∈ xT) (hl9 : Cond.methodLink own index y ∈ xT) {ci N : Nat} {T : u_T} (hcl : xCl[ci]? = some (y.cls, T, N)) (hg : xis w a ci = true) {st1 : List Value} (hs1 : av.reverse ++ .ref a :: st = st1) (k : Wx K cx nL n (pc + 3) L st w1) : Wx K cx nL n pc L st1 w := x_callV B hd hC hcw hini hnp hy hfr9 hlo9 hst hins hsel hl9 hcl hg hs1 k
theorem x_callVs1 {v : Value} {index : Nat} {y : MethodName} {bs : ByteArray} {mL fr1 lo1 : Nat} {rt : Option FieldType} {av : List Value} {w1 : XW} {a : Nat} (B : XB K cx own bytes nL n fr lo) (hd : decode bytes pc = .ok (.invokevirtual index, 3)) (hC : Ct y bs mL rt fr1 lo1 cx (.ref a :: av) w (some v) w1) (hcw : Cond.code y bs mL rt ∈ xT) (hini : Cond.initialized y.cls ∈ xT) (hnp : (parseMethodDescriptor y.desc).map (fun d => d.parameters.length) = some av.length) (hy : y.cls ≠ "java/lang/invoke/MethodHandle" ∧ y.cls ≠ "java/lang/invoke/VarHandle") (hfr9 : fr1 + 1 ≤ fr) (hlo9 : 8 + (mL + 11) + lo1 ≤ lo) (hst : (st.map fun v => v.category).sum ≤ 8) (hins : Cond.instanceMethod y ∈ xT) (hsel : Cond.selects y.cls y y ∈ xT) (hl9 : Cond.methodLink own index y ∈ xT) (hyc : y.cls = "java/lang/String") (hg : xis' a = true) {st1 : List Value} (hs1 : av.reverse ++ .ref a :: st = st1) (k : Wx K cx nL n (pc + 3) L (v :: st) w1) : Wx K cx nL n pc L st1 w := x_callVs B hd hC hcw hini hnp hy hfr9 hlo9 hst hins hsel hl9 hyc hg hs1 k
theorem x_callVs0 {index : Nat} {y : MethodName} {bs : ByteArray} {mL fr1 lo1 : Nat} {rt : Option FieldType} {av : List Value} {w1 : XW} {a : Nat} (B : XB K cx own bytes nL n fr lo) (hd : decode bytes pc = .ok (.invokevirtual index, 3)) (hC : Ct y bs mL rt fr1 lo1 cx (.ref a :: av) w none w1) (hcw : Cond.code y bs mL rt ∈ xT) (hini : Cond.initialized y.cls ∈ xT) (hnp : (parseMethodDescriptor y.desc).map (fun d => d.parameters.length) = some av.length) (hy : y.cls ≠ "java/lang/invoke/MethodHandle" ∧ y.cls ≠ "java/lang/invoke/VarHandle") (hfr9 : fr1 + 1 ≤ fr) (hlo9 : 8 + (mL + 11) + lo1 ≤ lo) (hst : (st.map fun v => v.category).sum ≤ 8) (hins : Cond.instanceMethod y ∈ xT) (hsel : Cond.selects y.cls y y ∈ xT) (hl9 : Cond.methodLink own index y ∈ xT) (hyc : y.cls = "java/lang/String") (hg : xis' a = true) {st1 : List Value} (hs1 : av.reverse ++ .ref a :: st = st1) (k : Wx K cx nL n (pc + 3) L st w1) : Wx K cx nL n pc L st1 w := x_callVs B hd hC hcw hini hnp hy hfr9 hlo9 hst hins hsel hl9 hyc hg hs1 k
/-- the law's script: n0 ints xs -/
def XS (K : KX) (cx : CX) (n0 : Nat) (xs : Nat → Int32) : Prop := match K with
  | (_, _, _, _, s, _, _, _, _, _, _, A, _, _) => va_X (xaB cx) n0 xs s s.heap ∧ xaB cx < s.heap.size ∧ ¬ A (xaB cx)
def xsc (n0 : Nat) (xs : Nat → Int32) (i : Int32) : Option Int32 := if i < 0 ∨ n0 ≤ i.toNatClampNeg then none else some (xs i.toNatClampNeg)
/-- the law's own end -/
def XRL (K : KX) : Prop := match K with
  | (_, _, _, R, s, _, args, below, meth, c, Q, A, cells, slots) => c.code = code ∧ R = room_1 ∧ (∃ b : Nat, args = #[Value.ref b]) ∧ meth.sig.returnType = Jvm.Pilot.@@N@@.ret ∧ meth.locks = false ∧ cells = 24 ∧ slots = 2437 ∧ Q = lw_Z below args s ∧ (∀ q, A q → s.heap.size ≤ q)
theorem x_slen {n0 : Nat} {xs : Nat → Int32} (B : XB K cx own bytes nL n fr lo) (hX : XS K cx n0 xs) (hd : decode bytes pc = .ok (.arraylength, 1)) (k : Wx K cx nL n (pc + 1) L (.int (Int32.ofNat n0) :: st) w) : Wx K cx nL n pc L (.ref 4000 :: st) w := by
  obtain ⟨p, l, e, R, s, m, args, below, meth, c, Q, A, cells, slots⟩ := K
  obtain ⟨hx, hb, hml, hown, hts, hG, hn0, hi, hA, hA0, hfr, hlo, hce, hsl⟩ := B
  intro H locs ls hn hP hS hl
  exact va_slen hx hb hX.1 hX.2.1 hX.2.2 hS hd (k H locs ls hn hP hS hl)
theorem x_sld {n0 : Nat} {xs : Nat → Int32} {i v : Int32} (B : XB K cx own bytes nL n fr lo) (hX : XS K cx n0 xs) (hd : decode bytes pc = .ok (.iaload, 1)) (hg : xsc n0 xs i = some v) (k : Wx K cx nL n (pc + 1) L (.int v :: st) w) : Wx K cx nL n pc L (.int i :: .ref 4000 :: st) w := by
  obtain ⟨p, l, e, R, s, m, args, below, meth, c, Q, A, cells, slots⟩ := K
  obtain ⟨hx, hb, hml, hown, hts, hG, hn0, hi, hA, hA0, hfr, hlo, hce, hsl⟩ := B
  intro H locs ls hn hP hS hl
  obtain ⟨hin, rfl⟩ : vp_in i n0 ∧ v = xs i.toNatClampNeg := by
    unfold xsc at hg
    split at hg
    next => cases hg
    next q => cases hg; exact ⟨q, rfl⟩
  exact va_sld hx hb hX.1 hX.2.1 hX.2.2 hS hin hd (k H locs ls hn hP hS hl)
theorem x_lret {v : Int32} {R9 : Int32 × XW} (B : XB K cx own bytes nL n fr lo) (hR : XRL K) (h1 : R9.1 = 1) (hd : decode code pc = .ok (.ireturn, 1)) (h : some (v, w) = some R9) : Wx K cx nL n pc L [.int v] w := by
  have hv : v = 1 := by rw [← h1, ← Option.some.inj h]
  subst hv
  obtain ⟨p, l, e, R, s, m, args, below, meth, c, Q, A, cells, slots⟩ := K
  obtain ⟨hx, hb, hml, hown, hts, hG, hn0, hi, hA, hA0, hfr, hlo, hce, hsl⟩ := B
  intro H locs ls hn hP hS hl
  obtain ⟨hb2, rfl, ⟨b, rfl⟩, hr, hlk, rfl, rfl, rfl, hA9⟩ := hR
  exact va_forget (fun q hq => hA9 _ (hS.2.2 q hq)) (lw_ret hx hb2 hr hlk hd)
end XROWS
theorem xnar {ty : FieldType} {v : Int32} (ht : ty = .boolean ∨ ty = .char ∨ ty = .byte) (h : vp_nar ty v = v) : ∃ t9, some ty = some t9 ∧ narrow t9 (.int v) = .int v := by
  refine ⟨ty, rfl, ?_⟩
  rcases ht with rfl | rfl | rfl <;> exact congrArg Value.int h
theorem xz0 : ∃ ty, some FieldType.boolean = some ty ∧ narrow ty (.int 0) = .int 0 := ⟨_, rfl, by decide +kernel⟩
theorem xz1 : ∃ ty, some FieldType.boolean = some ty ∧ narrow ty (.int 1) = .int 1 := ⟨_, rfl, by decide +kernel⟩
theorem xzI (v : Int32) : ∃ ty, some FieldType.int = some ty ∧ narrow ty (.int v) = .int v := ⟨_, rfl, rfl⟩
theorem xpdI : parseFieldDescriptor "I" = some .int := by decide +kernel
theorem xpdZ : parseFieldDescriptor "Z" = some .boolean := by decide +kernel
theorem xo1 {x : Int32} {a d o : Int} {r : List (Int × Int)} (h : x.toInt = a) : Op.lookupswitch.offset ((a, o) :: r) d x.toInt = o := by rw [h]; simp [Op.lookupswitch.offset]
theorem xi_0 : ∀ w ∈ u_ws RX0 TX0 2, w ∈ xT := by
  intro w hw
  obtain ⟨k, hk, rfl⟩ := List.mem_map.mp hw
  have hk := List.mem_range.mp hk
  rcases (show k = 0 ∨ k = 1 by omega) with rfl | rfl
  · exact xt_88
  · exact xt_89
theorem xi_1 : ∀ w ∈ u_ws RX1 TX1 2, w ∈ xT := by
  intro w hw
  obtain ⟨k, hk, rfl⟩ := List.mem_map.mp hw
  have hk := List.mem_range.mp hk
  rcases (show k = 0 ∨ k = 1 by omega) with rfl | rfl
  · exact xt_115
  · exact xt_116
theorem xi_2 : ∀ w ∈ u_ws RX2 TX2 4, w ∈ xT := by
  intro w hw
  obtain ⟨k, hk, rfl⟩ := List.mem_map.mp hw
  have hk := List.mem_range.mp hk
  rcases (show k = 0 ∨ k = 1 ∨ k = 2 ∨ k = 3 by omega) with rfl | rfl | rfl | rfl
  · exact xt_103
  · exact xt_104
  · exact xt_105
  · exact xt_106
theorem xi_3 : ∀ w ∈ u_ws RX3 TX3 7, w ∈ xT := by
  intro w hw
  obtain ⟨k, hk, rfl⟩ := List.mem_map.mp hw
  have hk := List.mem_range.mp hk
  rcases (show k = 0 ∨ k = 1 ∨ k = 2 ∨ k = 3 ∨ k = 4 ∨ k = 5 ∨ k = 6 by omega) with rfl | rfl | rfl | rfl | rfl | rfl | rfl
  · exact xt_124
  · exact xt_125
  · exact xt_126
  · exact xt_127
  · exact xt_128
  · exact xt_129
  · exact xt_130
theorem xi_4 : ∀ w ∈ u_ws RX4 TX4 12, w ∈ xT := by
  intro w hw
  obtain ⟨k, hk, rfl⟩ := List.mem_map.mp hw
  have hk := List.mem_range.mp hk
  rcases (show k = 0 ∨ k = 1 ∨ k = 2 ∨ k = 3 ∨ k = 4 ∨ k = 5 ∨ k = 6 ∨ k = 7 ∨ k = 8 ∨ k = 9 ∨ k = 10 ∨ k = 11 by omega) with rfl | rfl | rfl | rfl | rfl | rfl | rfl | rfl | rfl | rfl | rfl | rfl
  · exact xt_614
  · exact xt_615
  · exact xt_616
  · exact xt_617
  · exact xt_618
  · exact xt_619
  · exact xt_620
  · exact xt_621
  · exact xt_622
  · exact xt_623
  · exact xt_624
  · exact xt_625
