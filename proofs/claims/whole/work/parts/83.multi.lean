/-! MAKING: rows for constructors over the classes of the tables; a world is X ++ Y, Y the rows of arrays of arrays -/
section ZJ
variable {p : Program} {l : Launch} {e : Env} {R : Room} {s : State} {m : MethodId} {args : Array Value} {below : List Frame} {meth : Method} {c : Code} {H : Heap} {locs : List Loc} {cells slots : Nat} {Q : State → Prop}
variable {cc : ByteArray} {pc nL : Nat} {ls : Array Slot} {rest : List Value} {D : va_G} {A : Nat → Prop} {a : Nat} {X Y : va_W} {own : String} {tys : List (ClassId × FieldType)}
def zj_OT : List FieldType := [.array .int, .array .long, .object "AttributeKinds$Board"]
/-- the classes of arrays of references are made -/
def zj_O (U : State) : Prop := ∀ ty ∈ zj_OT, ∀ a : Array Value, (Cond.arrayOver ty).before a U = true
theorem zj_O.moved {u U : State} (hvm : u.vm.Alike U.vm) (h : zj_O u) : zj_O U := fun ty hty a => (Cond.arrayOver_setVmC (args := a) hvm ty).trans (h ty hty a)
/-- where a constructor stands -/
def zj_C (p : Program) (s : State) (m : MethodId) (args : Array Value) (meth : Method) (c : Code) (cc : ByteArray) (own : String) (D : va_G) (A : Nat → Prop) (nL : Nat) (tys : List (ClassId × FieldType)) : Prop :=
  p.tables.exec = Jvm.exec ∧ c.code = cc ∧ zk_W zt s ∧ s.vm.findClass own = some m.cls ∧ va_K D zt_cl tys s ∧ c.maxLocals = nL ∧ (∀ q, s.heap.size ≤ q → A q) ∧ meth.locks = false ∧ zj_O s
def zj_w (D : va_G) (A : Nat → Prop) (H0 : Heap) (ws : va_W) (H : Heap) (locs : List Loc) : Prop := va_P D zt_cl ws H ∧ va_D A ws ∧ va_S A H0 H locs
theorem zj_in {ci : Nat} {q : vw_C} (hc : zt_cl[ci]? = some q) : ∀ w ∈ u_ws q.1 q.2.1 q.2.2, w ∈ zt_WS := (zt_cg.1 ci q hc).1
theorem zj_setl {α : Type} {X Y : List α} {q0 : Nat} {x v : α} (h : X[q0]? = some x) : (X ++ Y).set q0 v = X.set q0 v ++ Y := List.set_append_left _ _ (List.getElem?_eq_some_iff.mp h).1
theorem zj_getl {α : Type} {X Y : List α} {q0 : Nat} {x : α} (h : X[q0]? = some x) : (X ++ Y)[q0]? = some x := by rw [List.getElem?_append_left (List.getElem?_eq_some_iff.mp h).1]; exact h
theorem zj_put (C0 : zj_C p s m args meth c cc own D A nL tys) (hin : meth.name = "<init>") (hw : zj_w D A s.heap (X ++ Y) H locs) {ci index : Nat} (k : Nat) {fs : List Value} {v : Value} {q : vw_C} (q0 : Nat) (he : X[q0]? = some (a, .inr (ci, fs))) (hc : zt_cl[ci]? = some q) (hk : k < q.2.2) (hlk : Cond.fieldLink own index (q.2.1 k).1 (q.2.1 k).2.1 (q.2.1 k).2.2.1 ∈ zt_WS) (hdecl : (q.2.1 k).1 = own) (hn : narrow (zt_ft ci k) v = v) (hfit : fits (zt_ft ci k) v = true) (hl : k < fs.length) (hdg : decode cc pc = .ok (.putfield index, 3))
    (kk : ∀ (H1 : Heap) (locs1 : List Loc), zj_w D A s.heap (X.set q0 (a, .inr (ci, fs.set k v)) ++ Y) H1 locs1 → W p l e R s m args below meth c H1 locs1 cells slots Q (F0 m (pc + 3) ls rest)) : W p l e R s m args below meth c H locs cells slots Q (F0 m pc ls (v :: .ref a :: rest)) := by
  obtain ⟨hx, hb, hts, hown, hK, hml, hA, -⟩ := C0
  obtain ⟨hP, hD, hS⟩ := hw
  have hts : ∀ w ∈ zt_WS, w.before args s = true := fun w hw => hts w hw args
  have g := zt_cg.1 ci q hc
  by_cases hf : (q.2.1 k).2.2.2 = true
  · refine va_putF (C := q.1) (T := q.2.1) (N := q.2.2) hx hb hts g.1 (zt_ft ci) g.2.1 g.2.2 hown hK hP hD hS q0 (zj_getl he) hc k hk (hts _ hlk) (fun _ h => h) hf hin hdecl (g.2.1 k hk) hn hfit hl hdg fun H1 locs1 h1 h2 h3 => kk H1 locs1 ?_
    rw [zj_setl he] at h1 h2
    exact ⟨h1, h2, h3⟩
  · refine va_put (C := q.1) (T := q.2.1) (N := q.2.2) hx hb hts g.1 (zt_ft ci) g.2.1 g.2.2 hown hK hP hD hS q0 (zj_getl he) hc k hk (hts _ hlk) (fun _ h => h) (by simpa using hf) (g.2.1 k hk) hn hfit hl hdg fun H1 locs1 h1 h2 h3 => kk H1 locs1 ?_
    rw [zj_setl he] at h1 h2
    exact ⟨h1, h2, h3⟩
theorem zj_get (C0 : zj_C p s m args meth c cc own D A nL tys) (hw : zj_w D A s.heap (X ++ Y) H locs) {ci index : Nat} (k : Nat) {fs : List Value} {v : Value} {q : vw_C} (q0 : Nat) (he : X[q0]? = some (a, .inr (ci, fs))) (hc : zt_cl[ci]? = some q) (hk : k < q.2.2) (hlk : Cond.fieldLink own index (q.2.1 k).1 (q.2.1 k).2.1 (q.2.1 k).2.2.1 ∈ zt_WS) (hv : fs[k]? = some v) (hdg : decode cc pc = .ok (.getfield index, 3))
    (kk : W p l e R s m args below meth c H locs cells slots Q (F0 m (pc + 3) ls (v :: rest))) : W p l e R s m args below meth c H locs cells slots Q (F0 m pc ls (.ref a :: rest)) := by
  obtain ⟨hx, hb, hts, hown, hK, hml, hA, -⟩ := C0
  obtain ⟨hP, hD, hS⟩ := hw
  have hts : ∀ w ∈ zt_WS, w.before args s = true := fun w hw => hts w hw args
  exact va_get (C := q.1) (T := q.2.1) (N := q.2.2) hx hb hts (zj_in hc) hown hK hP q0 (zj_getl he) hc k hk (hts _ hlk) (fun _ h => h) hv hdg kk
theorem zj_wsw {B : va_W} (hw : zj_w D A H (X ++ Y ++ B) H locs) : zj_w D A H (X ++ B ++ Y) H locs := ⟨hw.1.swap, hw.2.1.swap, hw.2.2⟩
theorem zj_new (C0 : zj_C p s m args meth c cc own D A nL tys) (hw : zj_w D A s.heap (X ++ Y) H locs) {index : Nat} (ci : Nat) {q : vw_C} (hc : zt_cl[ci]? = some q) (hcl : Cond.classLink own index q.1 ∈ zt_WS) (hin : Cond.instantiable q.1 q.2.2 ∈ zt_WS) (hini : Cond.initialized q.1 ∈ zt_WS) (fs : List Value) (hfs : ∀ j, j < q.2.2 → defaultValue (zt_ft ci j) = vp_V fs j) (hcells : cells + 1 ≤ R.cells) (hslots : slots + q.2.2 ≤ R.slots) (hdg : decode cc pc = .ok (.new index, 3))
    (kk : ∀ (b : Nat) (H1 : Heap), zj_w D A s.heap (X ++ [(b, .inr (ci, fs))] ++ Y) H1 locs → W p l e R s m args below meth c H1 locs (cells + 1) (slots + q.2.2) Q (F0 m (pc + 3) ls (.ref b :: rest))) : W p l e R s m args below meth c H locs cells slots Q (F0 m pc ls rest) := by
  obtain ⟨hx, hb, hts, hown, hK, hml, hA, -⟩ := C0
  obtain ⟨hP, hD, hS⟩ := hw
  have hts : ∀ w ∈ zt_WS, w.before args s = true := fun w hw => hts w hw args
  have g := zt_cg.1 ci q hc
  exact va_new (C := q.1) (T := q.2.1) (N := q.2.2) hx hb hts g.1 (zt_ft ci) g.2.1 hown (hts _ hcl) (hts _ hin) (hts _ hini) hK hP hD hS hA hc hfs hcells hslots hdg fun b H1 h1 h2 h3 => kk b H1 ⟨h1.swap, h2.swap, h3⟩
theorem zj_RA {c1 c2 : ClassId} {ty : FieldType} (h1 : va_RA s c1 ty) (h2 : va_RA s c2 ty) : c1 = c2 := by
  cases ty with
  | object C =>
    obtain ⟨-, -, -, -, -, h3⟩ := h1
    obtain ⟨-, -, -, -, -, h4⟩ := h2
    exact Option.some.inj (h3.symm.trans h4)
  | _ => exact Option.some.inj (Eq.trans (Eq.symm h1) h2)
theorem zj_newa (C0 : zj_C p s m args meth c cc own D A nL tys) (hw : zj_w D A s.heap (X ++ Y) H locs) {atype : ArrayType} {ty : FieldType} {cT : ClassId} (t0 : Nat) (ht : tys[t0]? = some (cT, ty)) (hty : newarray.typeOf atype = ty) (harr : Cond.arrayClass ty ∈ zt_WS)
    {n : Int32} {N' : Nat} (a0 : vp_A) (ha : ∀ cA : ClassId, vp_cell cA a0 = arrV cA N' (fun _ => defaultValue ty)) (hn : ¬ n < 0) (hN : n.toNatClampNeg = N') (hbytes : N' * componentBytes ty ≤ 536870912) (hcells : cells + 1 ≤ R.cells) (hslots : slots + N' ≤ R.slots) (hdg : decode cc pc = .ok (.newarray atype, 2))
    (kk : ∀ (b : Nat) (H1 : Heap), zj_w D A s.heap (X ++ [(b, .inl (cT, a0))] ++ Y) H1 locs → W p l e R s m args below meth c H1 locs (cells + 1) (slots + N') Q (F0 m (pc + 2) ls (.ref b :: rest))) : W p l e R s m args below meth c H locs cells slots Q (F0 m pc ls (.int n :: rest)) := by
  obtain ⟨hx, hb, hts, hown, hK, hml, hA, -⟩ := C0
  obtain ⟨hP, hD, hS⟩ := hw
  refine va_newa hx hb (by rw [hty]; exact hts _ harr args) hty hK hP hD hS hA ha hn hN hbytes hcells hslots hdg fun b cA H1 hK1 h1 h2 h3 => ?_
  have e : cA = cT := zj_RA (hK1.2 tys.length (cA, ty) (by simp)).2 (hK.2 t0 _ ht).2
  subst e
  exact kk b H1 ⟨h1.swap, h2.swap, h3⟩
theorem zj_newq (C0 : zj_C p s m args meth c cc own D A nL tys) (hw : zj_w D A s.heap (X ++ Y) H locs) {index : Nat} {K : String} {cT : ClassId} (t0 : Nat) (ht : tys[t0]? = some (cT, .object K)) (hcl : Cond.classLink own index K ∈ zt_WS) (harr : .object K ∈ zj_OT)
    {n : Int32} {N' : Nat} (hn : ¬ n < 0) (hN : n.toNatClampNeg = N') (hbytes : N' * 4 ≤ 536870912) (hcells : cells + 1 ≤ R.cells) (hslots : slots + N' ≤ R.slots) (hdg : decode cc pc = .ok (.anewarray index, 3))
    (kk : ∀ (b : Nat) (H1 : Heap), zj_w D A s.heap (X ++ [(b, .inl (cT, N', .inr (.inr (.inr (.inr (fun _ => none))))))] ++ Y) H1 locs → W p l e R s m args below meth c H1 locs (cells + 1) (slots + N') Q (F0 m (pc + 3) ls (.ref b :: rest))) : W p l e R s m args below meth c H locs cells slots Q (F0 m pc ls (.int n :: rest)) := by
  obtain ⟨hx, hb, hts, hown, hK, hml, hA, -, hO⟩ := C0
  obtain ⟨hP, hD, hS⟩ := hw
  refine va_newq hx hb hown (hts _ hcl args) (va_AO.of (hO _ harr args)) hK hP hD hS hA hn hN hbytes hcells hslots hdg fun b cA H1 hK1 h1 h2 h3 => ?_
  have e : cA = cT := zj_RA (hK1.2 tys.length (cA, .object K) (by simp)).2 (hK.2 t0 _ ht).2
  subst e
  exact kk b H1 ⟨h1.swap, h2.swap, h3⟩
theorem zj_astq (C0 : zj_C p s m args meth c cc own D A nL tys) (hw : zj_w D A s.heap (X ++ Y) H locs) (q0 t0 qk ci : Nat) {cA : ClassId} {r : vw_C} {n v : Nat} {vs : List Value} {f : Nat → Option Nat} (ha : X[q0]? = some (a, .inl (cA, n, .inr (.inr (.inr (.inr f)))))) (ht : tys[t0]? = some (cA, .object r.1)) (hv : X[qk]? = some (v, .inr (ci, vs))) (hc : zt_cl[ci]? = some r) {i : Int32} (hin : vp_in i n) (hdg : decode cc pc = .ok (.aastore, 1))
    (kk : ∀ (H1 : Heap) (locs1 : List Loc), zj_w D A s.heap (X.set q0 (a, .inl (cA, n, .inr (.inr (.inr (.inr (va_up f i.toNatClampNeg (some v))))))) ++ Y) H1 locs1 → W p l e R s m args below meth c H1 locs1 cells slots Q (F0 m (pc + 1) ls rest)) : W p l e R s m args below meth c H locs cells slots Q (F0 m pc ls (.ref v :: .int i :: .ref a :: rest)) := by
  obtain ⟨hx, hb, hts, hown, hK, hml, hA, -⟩ := C0
  obtain ⟨hP, hD, hS⟩ := hw
  refine va_astq hx hb hK hP hD hS q0 t0 qk ci (zj_getl ha) ht (zj_getl hv) hc hin hdg fun H1 locs1 h1 h2 h3 => kk H1 locs1 ?_
  rw [zj_setl ha] at h1 h2
  exact ⟨h1, h2, h3⟩
theorem zj_iast (C0 : zj_C p s m args meth c cc own D A nL tys) (hw : zj_w D A s.heap (X ++ Y) H locs) (q0 t0 : Nat) {cA : ClassId} {n : Nat} {f : Nat → Int32} (ha : X[q0]? = some (a, .inl (cA, n, .inl f))) (ht : tys[t0]? = some (cA, .int)) {i x : Int32} (hin : vp_in i n) (hdg : decode cc pc = .ok (.iastore, 1))
    (kk : ∀ (g : Nat → Int32) (H1 : Heap) (locs1 : List Loc), zj_w D A s.heap (X.set q0 (a, .inl (cA, n, .inl g)) ++ Y) H1 locs1 → W p l e R s m args below meth c H1 locs1 cells slots Q (F0 m (pc + 1) ls rest)) : W p l e R s m args below meth c H locs cells slots Q (F0 m pc ls (.int x :: .int i :: .ref a :: rest)) := by
  obtain ⟨hx, hb, hts, hown, hK, hml, hA, -⟩ := C0
  obtain ⟨hP, hD, hS⟩ := hw
  refine va_iast hx hb hK hP hD hS q0 t0 (zj_getl ha) ht hin hdg fun H1 locs1 h1 h2 h3 => kk (upd f i.toNatClampNeg x) H1 locs1 ?_
  rw [zj_setl ha] at h1 h2
  exact ⟨h1, h2, h3⟩
theorem zj_alen (C0 : zj_C p s m args meth c cc own D A nL tys) (hw : zj_w D A s.heap (X ++ Y) H locs) (q0 t0 : Nat) {cA : ClassId} {x : vp_A} (ha : X[q0]? = some (a, .inl (cA, x))) {ty : FieldType} (ht : tys[t0]? = some (cA, ty)) {v : Int32} (hv : Int32.ofNat x.1 = v) (hdg : decode cc pc = .ok (.arraylength, 1))
    (kk : W p l e R s m args below meth c H locs cells slots Q (F0 m (pc + 1) ls (.int v :: rest))) : W p l e R s m args below meth c H locs cells slots Q (F0 m pc ls (.ref a :: rest)) :=
  va_alen C0.1 C0.2.1 C0.2.2.2.2.1 hw.1 q0 t0 (zj_getl ha) ht hv hdg kk
theorem zj_obj (C0 : zj_C p s m args meth c cc own D A nL tys) {idx : Nat} (hl : Cond.methodLink own idx Lib.objectInit ∈ zt_WS) (hin : Cond.instanceMethod Lib.objectInit ∈ zt_WS) (hcd : Cond.code Lib.objectInit ⟨#[0xb1]⟩ 1 none ∈ zt_WS) (hsz : ls.size = nL) (hd : decode cc pc = .ok (.invokespecial idx, 3)) (hframes : 1 ≤ R.frames) (hlocals : 12 ≤ R.locals)
    (kk : W p l e R s m args below meth c H locs cells slots Q (F0 m (pc + 3) ls [])) : W p l e R s m args below meth c H locs cells slots Q (F0 m pc ls [.ref a]) := by
  obtain ⟨hx, hb, hts, hown, hK, hml, hA, -⟩ := C0
  refine W.objInit hx hb hown (hts _ hl args) (hts _ hin args) (hts _ hcd args) rfl (by rw [hml]; exact hsz) rfl hd hframes ?_ (W.eq (g2 := F0 m (pc + 3) ls []) rfl kk)
  exact hlocals
theorem zj_outer (c : ClassId) (N h0 : Nat) : ∀ i : Nat, Jvm.Free.Multi.outerC c N h0 i = arrV c N (fun j => va_rf (if j < i then some (h0 + 1 + j) else none))
  | 0 => by
    show ({ cls := c, slots := Array.replicate N .null, vm := .none } : Cell) = _
    rw [arrV_new]
    refine congrArg (arrV c N) (funext fun j => ?_)
    simp [va_rf]
  | i + 1 => by
    show (Jvm.Free.Multi.outerC c N h0 i).setSlot i (.ref (h0 + 1 + i)) = _
    rw [zj_outer c N h0 i, arrV_store]
    refine congrArg (arrV c N) (funext fun j => ?_)
    by_cases e : j = i
    · subst e
      simp [updV, va_rf]
    · by_cases h : j < i
      · simp [updV, e, h, Nat.lt_succ_of_lt h]
      · simp [updV, e, h, show ¬ j < i + 1 by omega]
theorem zj_arrx (c : ClassId) (N : Nat) {f g : Nat → Value} (h : ∀ i, i < N → f i = g i) : arrV c N f = arrV c N g := by
  unfold arrV
  congr 1
  congr 1
  funext j
  exact h j.1 j.2
theorem zj_cellq (c : ClassId) (N : Nat) {f g : Nat → Option Nat} (h : ∀ i, i < N → f i = g i) : vp_cell c (N, .inr (.inr (.inr (.inr f)))) = vp_cell c (N, .inr (.inr (.inr (.inr g)))) := by
  rw [vp_cell_q, vp_cell_q]
  exact zj_arrx c N (fun i hi => by rw [h i hi])
/-- the rows of an array of arrays -/
def zj_rows (N : Nat) (r : Nat → Nat) (x : va_E) : va_W := (List.range N).map (fun i => (r i, x))
theorem zj_rows_at {N k : Nat} {r : Nat → Nat} {x : va_E} {q : Nat × va_E} (h : (zj_rows N r x)[k]? = some q) : k < N ∧ q = (r k, x) := by
  unfold zj_rows at h
  rw [List.getElem?_map] at h
  by_cases hk : k < N
  · rw [List.getElem?_range hk] at h
    cases h
    exact ⟨hk, rfl⟩
  · rw [List.getElem?_eq_none (by rw [List.length_range]; omega)] at h
    cases h
theorem zj_reP {D : va_G} {cl : List vw_C} {X Y O r : va_W} {H : Heap} (h : va_P D cl (((X ++ Y) ++ O) ++ r) H) : va_P D cl ((X ++ O) ++ (Y ++ r)) H := by
  rw [List.append_assoc (X ++ Y)] at h
  have h2 := h.swap
  rw [← List.append_assoc X] at h2
  have h3 := h2.swap
  rw [List.append_assoc (X ++ O)] at h3
  exact h3
theorem zj_reD {A : Nat → Prop} {X Y O r : va_W} (h : va_D A (((X ++ Y) ++ O) ++ r)) : va_D A ((X ++ O) ++ (Y ++ r)) := by
  rw [List.append_assoc (X ++ Y)] at h
  have h2 := h.swap
  rw [← List.append_assoc X] at h2
  have h3 := h2.swap
  rw [List.append_assoc (X ++ O)] at h3
  exact h3
theorem zj_mna (C0 : zj_C p s m args meth c cc own D A nL tys) (hw : zj_w D A s.heap (X ++ Y) H locs) {index : Nat} {ty : FieldType} {cO cI : ClassId} (t0 : Nat) (ht : tys[t0]? = some (cO, .array ty)) (hcI : s.vm.findClass (FieldType.array ty).toString = some cI) (hcl : Cond.classLink own index ("[" ++ (FieldType.array ty).toString) ∈ zt_WS) (hov : .array ty ∈ zj_OT) (harr : Cond.arrayClass ty ∈ zt_WS)
    {n k : Int32} {N' K' : Nat} (z : vp_A) (hn : ¬ n < 0) (hk : ¬ k < 0) (hN : n.toNatClampNeg = N') (hM : k.toNatClampNeg = K')
    (hb1 : N' * 4 ≤ 536870912) (hb2 : K' * componentBytes ty ≤ 536870912) (hb3 : K' ≤ 536870912) (hdf : fits ty (defaultValue ty) = true) (hdd : (defaultValue ty).isDefault = true) (hcells : cells + (1 + N') ≤ R.cells) (hslots : slots + (N' + N' * K') ≤ R.slots) (hz : ∀ c : ClassId, Jvm.Free.Multi.innerC c K' (defaultValue ty) = vp_cell c z) (hdg : decode cc pc = .ok (.multianewarray index 2, 4))
    (kk : ∀ (q : Nat) (r : Nat → Nat) (H1 : Heap), zj_w D A s.heap ((X ++ [(q, .inl (cO, N', .inr (.inr (.inr (.inr (fun i => some (r i)))))))]) ++ (Y ++ zj_rows N' r (.inl (cI, z)))) H1 locs →
      W p l e R s m args below meth c H1 locs (cells + 1 + N') (slots + N' + N' * K') Q (F0 m (pc + 4) ls (.ref q :: rest))) : W p l e R s m args below meth c H locs cells slots Q (F0 m pc ls (.int k :: .int n :: rest)) := by
  obtain ⟨hx, hb, hts, hown, hK, hml, hA, -, hOO⟩ := C0
  obtain ⟨hP, hD, hS⟩ := hw
  subst hN
  subst hM
  intro T hT Xs
  obtain ⟨vm₁, cA, comp, -, fA, fC, hO, -, X', step⟩ := Xs.multianewarray2F hx hown (hts _ hcl args) (hOO _ hov args) (hts _ harr args) (g := F0 m pc ls (.int k :: .int n :: rest)) rfl (by rw [hb]; exact hdg) rfl hn hk hb1 hb2 hb3 hdf hdd hcells hslots
  have ec : some cI = some comp := hcI.symm.trans fC
  cases ec
  have eO : cA = cO := zj_RA (s := s) (ty := .array ty) fA (hK.2 t0 _ ht).2
  subst eO
  generalize hF : Jvm.Free.Multi.fill (T.setVm vm₁) cA cI n.toNatClampNeg k.toNatClampNeg (defaultValue ty) n.toNatClampNeg = F at X' step
  have hTh : (T.setVm vm₁).heap = H := hT
  obtain ⟨f1, f2, -, -⟩ := Jvm.Free.Multi.fill_facts (T.setVm vm₁) cA cI n.toNatClampNeg k.toNatClampNeg (defaultValue ty) n.toNatClampNeg
  rw [hF, hTh] at f1 f2
  have hold : ∀ x : Nat, x < H.size → F.heap[x]? = H[x]? := fun x hx => by
    have := Jvm.Free.Multi.fill_old (T.setVm vm₁) cA cI n.toNatClampNeg k.toNatClampNeg (defaultValue ty) (a := x) (by rw [hTh]; exact hx) n.toNatClampNeg
    rw [hF, hTh] at this
    exact this
  have hrow : ∀ j : Nat, j < n.toNatClampNeg → F.heap[H.size + 1 + j]? = some (vp_cell cI z) := fun j hj => by
    have := Jvm.Free.Multi.fill_inner (T.setVm vm₁) cA cI n.toNatClampNeg k.toNatClampNeg (defaultValue ty) n.toNatClampNeg j hj
    rw [hF, hTh, hz] at this
    exact this
  have hout : Jvm.Free.Multi.outerC cA n.toNatClampNeg H.size n.toNatClampNeg = vp_cell cA (n.toNatClampNeg, .inr (.inr (.inr (.inr (fun i => some (H.size + 1 + i)))))) := by
    rw [vp_cell_q, zj_outer cA n.toNatClampNeg H.size n.toNatClampNeg]
    exact zj_arrx _ _ (fun i hi => by rw [if_pos hi])
  rw [hout] at f2
  have hP0 : va_P D zt_cl (X ++ Y) F.heap := hP.kept (fun k9 x hx => hold x.1 ((hP k9 x hx).lt))
  have hP1 : va_P D zt_cl ((X ++ Y) ++ [(H.size, .inl (cA, n.toNatClampNeg, .inr (.inr (.inr (.inr (fun i => some (H.size + 1 + i)))))))]) F.heap := hP0.app (fun k9 x hx => by
    have h0 : k9 < 1 := (List.getElem?_eq_some_iff.mp hx).1
    rw [show k9 = 0 by omega] at hx
    cases hx
    exact f2)
  have hP2 : va_P D zt_cl (((X ++ Y) ++ [(H.size, .inl (cA, n.toNatClampNeg, .inr (.inr (.inr (.inr (fun i => some (H.size + 1 + i)))))))]) ++ zj_rows n.toNatClampNeg (fun i => H.size + 1 + i) (.inl (cI, z))) F.heap := hP1.app (fun k9 x hx => by
    obtain ⟨h1, rfl⟩ := zj_rows_at hx
    exact hrow k9 h1)
  have hD1 := hD.push (e := .inl (cA, n.toNatClampNeg, .inr (.inr (.inr (.inr (fun i => some (H.size + 1 + i))))))) hP rfl (hA _ hS.1)
  have hle : ∀ (k9 : Nat) (x : Nat × va_E), ((X ++ Y) ++ [(H.size, .inl (cA, n.toNatClampNeg, .inr (.inr (.inr (.inr (fun i => some (H.size + 1 + i)))))))])[k9]? = some x → x.1 ≤ H.size := fun k9 x hx => by
    by_cases hl : k9 < (X ++ Y).length
    · rw [List.getElem?_append_left hl] at hx
      exact Nat.le_of_lt ((hP k9 x hx).lt)
    · rw [List.getElem?_append_right (by omega)] at hx
      have h0 : k9 - (X ++ Y).length < 1 := (List.getElem?_eq_some_iff.mp hx).1
      rw [show k9 - (X ++ Y).length = 0 by omega] at hx
      cases hx
      exact Nat.le_refl _
  have hD2 : va_D A (((X ++ Y) ++ [(H.size, .inl (cA, n.toNatClampNeg, .inr (.inr (.inr (.inr (fun i => some (H.size + 1 + i)))))))]) ++ zj_rows n.toNatClampNeg (fun i => H.size + 1 + i) (.inl (cI, z))) := by
    refine hD1.app ⟨fun i j x y hi hj hxy => ?_, fun k9 x hx => ?_⟩ (fun i j x y hi hj hxy => ?_)
    · obtain ⟨-, rfl⟩ := zj_rows_at hi
      obtain ⟨-, rfl⟩ := zj_rows_at hj
      have : H.size + 1 + i = H.size + 1 + j := hxy
      omega
    · obtain ⟨-, rfl⟩ := zj_rows_at hx
      have := hS.1
      exact hA _ (show s.heap.size ≤ H.size + 1 + k9 by omega)
    · obtain ⟨-, rfl⟩ := zj_rows_at hj
      have h1 := hle i x hi
      have h2 : x.1 = H.size + 1 + j := hxy
      omega
  obtain ⟨t, a1, b1⟩ := kk H.size (fun i => H.size + 1 + i) F.heap ⟨zj_reP hP2, zj_reD hD2, ⟨by rw [f1]; have := hS.1; omega, fun x h1 h2 => (hold x (Nat.lt_of_lt_of_le h1 hS.1)).trans (hS.2.1 x h1 h2), hS.2.2⟩⟩ F rfl X'
  refine ⟨t, step t ?_, b1⟩
  have e : T.heap.size = H.size := by rw [hT]
  rw [e]
  exact a1
/-- a constructor's contract: from the object alone, its fields 0 and null, to the world that it makes -/
def zj_Ct (l : Launch) (D : va_G) (tys : List (ClassId × FieldType)) (y : MethodName) (code : ByteArray) (maxL d mc ms : Nat) (as : List Value) (h0 ci : Nat) (fs0 : List Value) {σ : Type} (W1 W2 : σ → va_W) : Prop :=
  ∀ sz : Nat, Met l y [Cond.code y code maxL none] (zk_rm d mc ms) (va_Pc (.ref h0 :: as) (fun U => U.heap.size = sz ∧ va_P D zt_cl [(h0, .inr (ci, fs0))] U.heap ∧ zk_W zt U ∧ va_K D zt_cl tys U ∧ zj_O U)) (va_Qv (fun _ : σ => True) (fun u t => va_P D zt_cl (W1 u ++ W2 u) t.heap ∧ va_D (va_A [(h0, .inr (ci, fs0))] sz) (W1 u ++ W2 u)) (va_A [(h0, .inr (ci, fs0))] sz)) mc ms (va_A [(h0, .inr (ci, fs0))] sz)
theorem zj_ofW {y : MethodName} {code : ByteArray} {maxL d mc ms : Nat} {as : List Value} {h0 ci : Nat} {fs0 : List Value} {σ : Type} {W1 W2 : σ → va_W} (hy : plainName y.cls = true) (hy1 : y.name = "<init>") (hlen : (lg_sl (.ref h0 :: as)).length ≤ maxL)
    (body : ∀ (p : Program) (e : Env) (s : State) (m : MethodId) (below : List Frame) (meth : Method) (c : Code) (A : Nat → Prop) (Q : State → Prop) (ls : Array Slot), zj_C p s m (Value.ref h0 :: as).toArray meth c code y.cls D A maxL tys → meth.name = "<init>" →
      (∀ (u : σ) (H : Heap) (locs : List Loc) (lc : Array Slot) (pc cells slots : Nat), cells ≤ mc → slots ≤ ms → decode code pc = .ok (.return_, 1) → zj_w D A s.heap (W1 u ++ W2 u) H locs → W p l e (zk_rm d mc ms) s m (Value.ref h0 :: as).toArray below meth c H locs cells slots Q (F0 m pc lc [])) →
      lv_has ls maxL (lv_args 0 (.ref h0 :: as)) → zj_w D A s.heap ([(h0, .inr (ci, fs0))] ++ []) s.heap [] → W p l e (zk_rm d mc ms) s m (Value.ref h0 :: as).toArray below meth c s.heap [] 0 0 Q (F0 m 0 ls [])) : zj_Ct l D tys y code maxL d mc ms as h0 ci fs0 W1 W2 := by
  intro sz
  refine Met.ofW (cc := code) (maxL := maxL) (ret := none) (ws' := []) hy rfl ?_
  intro p e s m args below meth c s₁ B hml hv
  obtain ⟨rfl, hsz, hP, hW0, hK, hO⟩ := hv
  subst hsz
  have hr := B.returns
  have hlocks := B.notSynchronized
  have hin : meth.name = "<init>" := (name_of_methodNamed B.named B.method).1.trans hy1
  have hown : s.vm.findClass y.cls = some m.cls := findClass_of_methodNamed B.named
  have hl := lv_entry (.ref h0 :: as) (n := maxL) hlen
  rw [lg_entry_eq]
  refine body p e s m below meth c (va_A [(h0, .inr (ci, fs0))] s.heap.size) _ _ ⟨B.exec, B.bytes, hW0, hown, hK, hml, fun q h => Or.inr h, hlocks, hO⟩ hin ?_ hl ⟨hP, ?_, va_S.rf⟩
  · intro u H locs lc pc cells slots h1 h2 hdg hw
    refine W.widen h1 h2 ?_
    exact W.vret B.exec B.bytes hr (fun t ht hW => ⟨⟨u, rfl, trivial, by rw [ht]; exact hw.1, hw.2.1⟩, hw.2.2.F ht⟩) hw.2.2.2.2 hdg
  · refine ⟨fun i j x y hi hj _ => ?_, fun k x hx => ?_⟩
    · have h1 : i < 1 := (List.getElem?_eq_some_iff.mp hi).1
      have h2 : j < 1 := (List.getElem?_eq_some_iff.mp hj).1
      omega
    · exact va_A.in hx
theorem zj_join {X Y w1 w2 : va_W} {D : va_G} {A : Nat → Prop} {H H1 : Heap} {h0 : Nat} {x : va_E} (hP : va_P D zt_cl (X ++ [(h0, x)] ++ Y) H) (hD : va_D A (X ++ [(h0, x)] ++ Y)) (hk : ∀ q : Nat, q < H.size → ¬ va_A [(h0, x)] H.size q → H1[q]? = H[q]?) (hF : ∀ q, va_A [(h0, x)] H.size q → A q) (hP1 : va_P D zt_cl (w1 ++ w2) H1) (hD1 : va_D (va_A [(h0, x)] H.size) (w1 ++ w2)) :
    va_P D zt_cl ((X ++ w1) ++ (Y ++ w2)) H1 ∧ va_D A ((X ++ w1) ++ (Y ++ w2)) := by
  have hP' : va_P D zt_cl (X ++ Y ++ [(h0, x)]) H := hP.swap
  have hD' : va_D A (X ++ Y ++ [(h0, x)]) := hD.swap
  have apart : ∀ (k : Nat) (q : Nat × va_E), (X ++ Y)[k]? = some q → q.1 < H.size ∧ ¬ va_A [(h0, x)] H.size q.1 := by
    intro k q hq
    have hkl : k < (X ++ Y).length := (List.getElem?_eq_some_iff.mp hq).1
    have h2 : (X ++ Y ++ [(h0, x)])[k]? = some q := zj_getl hq
    have hl := (hP' k q h2).lt
    refine ⟨hl, fun h => ?_⟩
    rcases h with ⟨k2, e, h⟩ | h
    · have h3 : k2 < 1 := (List.getElem?_eq_some_iff.mp h).1
      rw [show k2 = 0 by omega] at h
      have h4 : q.1 = h0 := by
        have := (Option.some.inj h)
        exact (congrArg Prod.fst this).symm
      have h5 : (X ++ Y ++ [(h0, x)])[(X ++ Y).length]? = some (h0, x) := by simp
      have := hD'.1 k (X ++ Y).length q (h0, x) h2 h5 h4
      omega
    · omega
  have hPr : va_P D zt_cl (X ++ Y) H1 := fun k q hq => ((hP' k q (zj_getl hq)).kept (hk q.1 (apart k q hq).1 (apart k q hq).2))
  have hDr : va_D A (X ++ Y) := ⟨fun i j a b hi hj h => hD'.1 i j a b (zj_getl hi) (zj_getl hj) h, fun k q hq => hD'.2 k q (zj_getl hq)⟩
  have hPa := hPr.app hP1
  have hDa := hDr.app (hD1.weaken (fun k q _ h => hF q.1 h)) (fun i j a b ha hb hab => (apart i a ha).2 (by rw [hab]; exact hD1.2 j b hb))
  rw [← List.append_assoc (X ++ Y)] at hPa hDa
  exact ⟨zj_reP hPa, zj_reD hDa⟩
theorem zj_call (C0 : zj_C p s m args meth c cc own D A nL tys) {h0 ci index n : Nat} {fs0 : List Value} (hw : zj_w D A s.heap ((X ++ [(h0, .inr (ci, fs0))]) ++ Y) H locs) {y : MethodName} {code : ByteArray} {maxL d mc ms : Nat} {as : List Value} {σ : Type} {W1 W2 : σ → va_W} (hM : zj_Ct l D tys y code maxL d mc ms as h0 ci fs0 W1 W2)
    (hcode : Cond.code y code maxL none ∈ zt_WS) (hini : Cond.initialized y.cls ∈ zt_WS) (hl : Cond.methodLink own index y ∈ zt_WS) (hin : Cond.instanceMethod y ∈ zt_WS) (hy1 : y.name = "<init>") (hd : y.cls ≠ "java/lang/invoke/MethodHandle" ∧ y.cls ≠ "java/lang/invoke/VarHandle" ∧ (parseMethodDescriptor y.desc).map (fun d => d.parameters.length) = some n) (hn : as.length = n)
    (hR1 : d + 1 ≤ R.frames) (hR2 : 8 + (maxL + 11) + 64 * d ≤ R.locals) (hsz : ls.size = nL) (hwt : (rest.map fun v => v.category).sum ≤ 8) {st0 : List Value} (hst : st0 = as.reverse ++ .ref h0 :: rest) (hdg : decode cc pc = .ok (.invokespecial index, 3)) (hf1 : cells + mc ≤ R.cells) (hf2 : slots + ms ≤ R.slots)
    (kk : ∀ (u : σ) (H1 : Heap) (locs1 : List Loc), zj_w D A s.heap ((X ++ W1 u) ++ (Y ++ W2 u)) H1 locs1 → W p l e R s m args below meth c H1 locs1 (cells + mc) (slots + ms) Q (F0 m (pc + 3) ls rest)) : W p l e R s m args below meth c H locs cells slots Q (F0 m pc ls st0) := by
  obtain ⟨hx, hb, hts, hown, hK, hml, hA, -, hO⟩ := C0
  obtain ⟨hP, hD, hS⟩ := hw
  subst hst
  have hG : GoodIn zt_WS [Cond.code y code maxL none] := fun w hw => by
    rw [List.mem_singleton.mp hw]
    exact ⟨hcode, Or.inl rfl⟩
  have ht2 : ∀ w ∈ zt_WS, w.before args s = true := fun w hw => hts w hw args
  have hi : (X ++ [(h0, .inr (ci, fs0))] ++ Y)[X.length]? = some (h0, .inr (ci, fs0)) := by simp
  have hPc : va_P D zt_cl [(h0, .inr (ci, fs0))] H := fun k q hq => by
    have h3 : k < 1 := (List.getElem?_eq_some_iff.mp hq).1
    rw [show k = 0 by omega] at hq
    cases hq
    exact hP _ _ hi
  have hFc : ∀ q, va_A [(h0, .inr (ci, fs0))] H.size q → A q := fun q h => by
    rcases h with ⟨k, e, h⟩ | h
    · have h3 : k < 1 := (List.getElem?_eq_some_iff.mp h).1
      rw [show k = 0 by omega] at h
      cases h
      exact hD.2 _ _ hi
    · exact hA q (Nat.le_trans hS.1 h)
  refine va_callv (va_runI (As := as) (rest := rest) (b := h0) (nL := nL) (Ts := zt_WS) ⟨hx, hb, hml, hown, ht2⟩ (hM H.size) (cwI n ht2 hG rfl rfl rfl (ht2 _ hini) (ht2 _ hl) (ht2 _ hin) hy1 hd ⟨hR1, hR2⟩)
    ⟨fun a U g mk q => by obtain ⟨q0, q1, qP, qW, qK, qO⟩ := q; exact ⟨q0, q1, qP, qW.warm zt_gt (State.WarmedH.refl U), va_K.moved (u := U) (U := U.calling g mk a) (Vm.Alike.refl U.vm) qK, zj_O.moved (u := U) (U := U.calling g mk a) (Vm.Alike.refl U.vm) qO⟩, fun U hU hW => ⟨rfl, by rw [hU], by rw [hU]; exact hPc, hts.warm zt_gt hW, va_K.moved hW.alike hK, hO.moved hW.alike⟩⟩ rfl hn hsz rfl (lv_room hwt) hdg ⟨hf1, hf2⟩) hS (fun q _ h => hFc q h) hFc (fun u t H1 locs1 ht hvm _ hB hz1 hk1 hS1 => ?_)
  obtain ⟨hP1, hD1⟩ := hB
  rw [ht] at hP1
  obtain ⟨g1, g2⟩ := zj_join hP hD hk1 hFc hP1 hD1
  exact kk u H1 locs1 ⟨g1, g2, hS1⟩
end ZJ
