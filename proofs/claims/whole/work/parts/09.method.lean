/-! METHODS: a contract over the layout; a method's body proved by runs of the abstract machine alone. -/
/-- a method: 0 static or 1 of an object, its class's number, its name, code, locals, what it returns -/
abbrev zk_Me : Type := Nat × Nat × MethodName × ByteArray × Nat × Option FieldType
/-- the law's run: launch, addresses, array classes, classes and slots, array types -/
abbrev zk_G : Type := Launch × (Nat → Nat → Nat) × (Nat → ClassId) × va_G × List (ClassId × FieldType)
/-- the layout, the counts, the classes, their fields' types, the words, the methods, the exceptions' names -/
abbrev zk_T : Type := List za_S × (Nat → Nat) × List vw_C × (Nat → Nat → FieldType) × List Cond × List zk_Me × (Nat → String)
def zk_X0 : za_X := (false, 0, 0, fun _ => 0)
def zk_A (Θ : zk_T) (Γ : zk_G) (sz : Nat) : Nat → Prop := fun q => (∃ b j : Nat, b < Θ.1.length ∧ j < Θ.2.1 b ∧ q = Γ.2.1 b j) ∨ sz ≤ q
def zk_W (Θ : zk_T) (U : State) : Prop := ∀ w ∈ Θ.2.2.2.2.1, ∀ a : Array Value, w.before a U = true
def zk_H (Θ : zk_T) (Γ : zk_G) (μ : za_M) (H : Heap) : Prop := va_P Γ.2.2.2.1 Θ.2.2.1 (za_ws Θ.1 Θ.2.1 Γ.2.1 Γ.2.2.1 μ) H
def zk_okr (Θ : zk_T) (r : Option za_V) : Prop := match r with
  | none => True
  | some v => za_ok Θ.2.1 v
/-- what holds wherever a method begins, beside its arguments and the memory; E: what else the run keeps -/
def zk_A0 (Θ : zk_T) (Γ : zk_G) : Nat → Prop := fun q => ∃ b j : Nat, b < Θ.1.length ∧ j < Θ.2.1 b ∧ q = Γ.2.1 b j
/-- a static of Throwable that holds a reference or null, outside our cells -/
def zs_Z (n d : String) (A0 : Nat → Prop) (U : State) : Prop := ∃ (c : ClassId) (k : Class) (i : Nat) (f : Field) (a : Nat) (cell : Cell) (v : Value), U.vm.findClass Bundle.tN = some c ∧ U.fieldFound? Bundle.tN n d = some (c, k, i, f) ∧ f.isStatic = true ∧ k.statics = some a ∧ U.heap[a]? = some cell ∧ cell.vm.isStatics = true ∧ cell.cls = c ∧ f.slot < cell.slots.size ∧ k.staticTypes[f.slot]? = some f.type ∧ cell.slots[f.slot]? = some v ∧ (v = .null ∨ ∃ t, v = .ref t) ∧ ¬ A0 a
/-- what throwing asks -/
def zk_E (Θ : zk_T) (Γ : zk_G) (U : State) : Prop := Γ.1.stackTraces = false ∧ zs_Z "UNASSIGNED_STACK" Bundle.steD (zk_A0 Θ Γ) U ∧ zs_Z "SUPPRESSED_SENTINEL" Bundle.listD (zk_A0 Θ Γ) U ∧ ∀ (E F : Nat) (cE cF : ClassId), E < 3 → F < 3 → E ≠ F → U.vm.findClass (Θ.2.2.2.2.2.2 E) = some cE → U.vm.findClass (Θ.2.2.2.2.2.2 F) = some cF → U.vm.assignable cE cF = false
def zk_I (Θ : zk_T) (Γ : zk_G) (U : State) : Prop := zk_W Θ U ∧ va_K Γ.2.2.2.1 Θ.2.2.1 Γ.2.2.2.2 U ∧ (∀ ν : za_M, va_D (fun _ => True) (za_ws Θ.1 Θ.2.1 Γ.2.1 Γ.2.2.1 ν)) ∧ za_ty Θ.1 Γ.2.2.1 Γ.2.2.2.2 ∧ zk_E Θ Γ U
def zk_Pc (Θ : zk_T) (Γ : zk_G) (sz : Nat) (as : List za_V) (μ : za_M) : Array Value → State → Prop := fun v U =>
  v = (as.map (za_cv Γ.2.1)).toArray ∧ U.heap.size = sz ∧ zk_H Θ Γ μ U.heap ∧ za_oks Θ.2.1 as ∧ zk_I Θ Γ U
def zk_Qc (Θ : zk_T) (Γ : zk_G) (sz : Nat) (post : Option za_V → za_M → Prop) (px : Nat → za_M → Prop) : Array Value → State → Outcome → State → Prop := fun _ st o t =>
  ((∃ (r : Option za_V) (μ : za_M), o = .returned (r.map (za_cv Γ.2.1)) ∧ zk_okr Θ r ∧ post r μ ∧ zk_H Θ Γ μ t.heap) ∨
    (∃ (q E : Nat) (ce : Cell) (μ : za_M), o = .threw q ∧ px E μ ∧ zk_H Θ Γ μ t.heap ∧ t.heap[q]? = some ce ∧ ce.vm = .none ∧ st.vm.findClass (Θ.2.2.2.2.2.2 E) = some ce.cls)) ∧ va_F (zk_A Θ Γ sz) st t
def zk_rm (d mc ms : Nat) : Room := { frames := d, cells := mc, slots := ms, locals := 64 * d }
def zk_Ct (Θ : zk_T) (Γ : zk_G) (M : zk_Me) (d mc ms : Nat) (as : List za_V) (μ : za_M) (post : Option za_V → za_M → Prop) (px : Nat → za_M → Prop) : Prop :=
  ∀ sz : Nat, zx_Met Γ.1 M.2.2.1 [Cond.code M.2.2.1 M.2.2.2.1 M.2.2.2.2.1 M.2.2.2.2.2] (zk_rm d mc ms) (zk_Pc Θ Γ sz as μ) (zk_Qc Θ Γ sz post px) mc ms (zk_A Θ Γ sz)
/-- the receiver is an object of the method's class -/
def zk_rc (Λ : List za_S) (M : zk_Me) (as : List za_V) : Bool := match M.1 with
  | 0 => true
  | _ => (match as with
    | .inr (.inr (.inl (b, _))) :: _ => (match za_n Λ b with
      | some (4, ci, _) => Nat.beq ci M.2.1
      | _ => false)
    | _ => false)
def zk_CC (Θ : zk_T) (Γ : zk_G) (d mc ms : Nat) : za_CC := fun y as μ κ k x => match za_n Θ.2.2.2.2.2.1 y with
  | some M => (match zk_rc Θ.1 M as with
    | true => ∃ (d' mc' ms' : Nat) (post : Option za_V → za_M → Prop) (px : Nat → za_M → Prop), d' < d ∧ κ.1 + mc' ≤ mc ∧ κ.2 + ms' ≤ ms ∧ zk_Ct Θ Γ M d' mc' ms' as μ post px ∧ (∀ r μ1, post r μ1 → k r μ1 (κ.1 + mc', κ.2 + ms')) ∧ (∀ E μ1, px E μ1 → x E μ1 (κ.1 + mc', κ.2 + ms'))
    | false => False)
  | none => False
def zk_RR (mc ms : Nat) (post : Option za_V → za_M → Prop) : za_RR := fun r μ κ => κ.1 ≤ mc ∧ κ.2 ≤ ms ∧ post r μ
/-- what is asked of a row that calls -/
def zk_gc (Θ : zk_T) (own : String) (e : za_E) : Prop := match e.2.1 with
  | .invokevirtual k => ∃ (M : zk_Me) (q : vw_C), za_n Θ.2.2.2.2.2.1 e.2.2.2.1 = some M ∧ M.1 = 1 ∧ Θ.2.2.1[M.2.1]? = some q ∧ q.1 = M.2.2.1.cls ∧ Cond.methodLink own k M.2.2.1 ∈ Θ.2.2.2.2.1 ∧ Cond.instanceMethod M.2.2.1 ∈ Θ.2.2.2.2.1 ∧ Cond.selects M.2.2.1.cls M.2.2.1 M.2.2.1 ∈ Θ.2.2.2.2.1 ∧ (parseMethodDescriptor M.2.2.1.desc).map (fun z => z.parameters.length + 1) = some e.2.2.2.2.1
  | .invokestatic k => (e.2.2.2.1 = 999 ∧ Cond.methodLink own k arraycopyName ∈ Θ.2.2.2.2.1 ∧ Cond.native arraycopyName ∈ Θ.2.2.2.2.1 ∧ Cond.static arraycopyName ∈ Θ.2.2.2.2.1 ∧ Cond.initialized "java/lang/System" ∈ Θ.2.2.2.2.1) ∨
    ∃ M : zk_Me, ¬ e.2.2.2.1 = 999 ∧ za_n Θ.2.2.2.2.2.1 e.2.2.2.1 = some M ∧ M.1 = 0 ∧ (Cond.methodLink own k M.2.2.1 ∈ Θ.2.2.2.2.1 ∨ ∃ host : String, Cond.methodLinkNest own k M.2.2.1 host ∈ Θ.2.2.2.2.1) ∧ Cond.static M.2.2.1 ∈ Θ.2.2.2.2.1 ∧ (parseMethodDescriptor M.2.2.1.desc).map (fun z => z.parameters.length) = some e.2.2.2.2.1
  | .invokespecial _ => False
  | _ => True
def zk_gm (Θ : zk_T) (M : zk_Me) : Prop := Cond.code M.2.2.1 M.2.2.2.1 M.2.2.2.2.1 M.2.2.2.2.2 ∈ Θ.2.2.2.2.1 ∧ Cond.initialized M.2.2.1.cls ∈ Θ.2.2.2.2.1 ∧ (M.2.2.1.cls ≠ "java/lang/invoke/MethodHandle" ∧ M.2.2.1.cls ≠ "java/lang/invoke/VarHandle") ∧ plainName M.2.2.1.cls = true ∧ M.2.2.2.2.1 ≤ 40
/-- words that stay true -/
def zk_ok (w : Cond) : Bool := goodWord w || (match w with
  | .methodLinkNest _ _ _ _ => true
  | .stringRef _ _ _ => true
  | .declares _ => true
  | .castable _ _ => true
  | _ => false)
/-- what is asked of the tables -/
def zk_gt (Θ : zk_T) : Prop := za_wf Θ.1 Θ.2.1 ∧ za_cg Θ.2.2.2.2.1 Θ.2.2.1 Θ.2.2.2.1 Θ.1 ∧ (∀ M ∈ Θ.2.2.2.2.2.1, zk_gm Θ M) ∧ ∀ w ∈ Θ.2.2.2.2.1, zk_ok w = true
/-- an instruction behind which nothing goes on -/
def zk_nf (i : Instr) : Bool := match i with
  | .goto _ => true
  | .ireturn => true
  | .lreturn => true
  | .areturn => true
  | .return_ => true
  | .new _ => true
  | .tableswitch _ _ _ _ => true
  | _ => false
/-- rows one behind the other -/
def zk_ch : List za_E → Prop
  | [] => True
  | [_] => True
  | e :: e' :: r => (zk_nf e.2.1 = true ∨ e.2.2.1 = e'.1) ∧ zk_ch (e' :: r)
theorem zk_nf_stp {Λ : List za_S} {X : za_X} {ret : Nat} {RR : za_RR} {XX : za_XX} {CC : za_CC} {HX : Nat → za_C → za_M → Nat × Nat → Prop} {K : za_K} {J : Nat → za_K} {e : za_E} {ls : za_C} {st : List za_V} {μ : za_M} {κ : Nat × Nat} (hn : zk_nf e.2.1 = true) (h : za_stp Λ X ret RR XX CC HX K J e ls st μ κ) : za_stp Λ X ret RR XX CC HX (fun _ _ _ _ => False) J e ls st μ κ := by
  obtain ⟨pc, ins, nx, x1, x2, v⟩ := e
  cases ins <;> first | exact h | cases hn
def zk_go (Λ : List za_S) (X : za_X) (ret : Nat) (RR : za_RR) (XX : za_XX) (CC : za_CC) (HX : Nat → Nat → za_C → za_M → Nat × Nat → Prop) (prog : List za_E) (cuts : List Nat) (ZZ : Nat → za_K) (n pc : Nat) : za_K := fun ls st μ κ => match za_at pc prog with
  | [] => False
  | e :: r => za_stp Λ X ret RR XX CC (HX e.1) (fun ls st μ κ => za_wp Λ X ret RR XX CC HX prog cuts ZZ n r ls st μ κ) (fun t ls st μ κ => za_wp Λ X ret RR XX CC HX prog cuts ZZ n (za_at t prog) ls st μ κ) e ls st μ κ
theorem zk_W.warm {Θ : zk_T} (hT : zk_gt Θ) {s U : State} (hW : s.WarmedH U.vm) (h : zk_W Θ s) : zk_W Θ U := by
  intro w hw a
  have hg := hT.2.2.2 w hw
  unfold zk_ok at hg
  rw [Bool.or_eq_true] at hg
  rcases hg with hg | hg
  · exact word_at hW (good_of_word hg) (h w hw a)
  · split at hg
    · exact va_Nw.use rfl (va_Nw.warmM hW (h _ hw #[]))
    · have h1 := Cond.stringRef_warmed hW (h _ hw a)
      exact h1
    · have h1 := Cond.before_shiftedFace (State.Shifted.of_warmed hW) _ (by rfl) (h _ hw a)
      exact h1
    · have h1 := Cond.before_shiftedFace (State.Shifted.of_warmed hW) _ (by rfl) (h _ hw a)
      exact h1
    · cases hg
theorem zs_Z.warm {n d : String} {A0 : Nat → Prop} {s U : State} (hW : s.vm.Alike U.vm) (hh : ∀ a : Nat, a < s.heap.size → ¬ A0 a → U.heap[a]? = s.heap[a]?) (h : zs_Z n d A0 s) : zs_Z n d A0 U := by
  obtain ⟨c, k, i, f, a, cell, v, h1, h2, h3, h4, h5, h6, h7, h8, h9, h10, h11, h12⟩ := h
  obtain ⟨k', hi', he⟩ := State.fieldFound?_setVm hW h2
  exact ⟨c, k', i, f, a, cell, v, by rw [hW.findClass]; exact h1, hi', h3, by rw [he]; exact h4, by rw [hh a (Array.getElem?_eq_some_iff.mp h5).1 h12]; exact h5, h6, h7, h8, by rw [he]; exact h9, h10, h11, h12⟩
theorem zk_I.warm {Θ : zk_T} {Γ : zk_G} (hT : zk_gt Θ) {s U : State} (hW : s.WarmedH U.vm) (hh : ∀ a : Nat, a < s.heap.size → ¬ zk_A Θ Γ s.heap.size a → U.heap[a]? = s.heap[a]?) (h : zk_I Θ Γ s) : zk_I Θ Γ U := by
  have hh' : ∀ a : Nat, a < s.heap.size → ¬ zk_A0 Θ Γ a → U.heap[a]? = s.heap[a]? := fun a h1 h2 => hh a h1 (fun q => q.elim h2 (fun q => Nat.not_le.mpr h1 q))
  refine ⟨h.1.warm hT hW, va_K.moved hW.alike h.2.1, h.2.2.1, h.2.2.2.1, h.2.2.2.2.1, h.2.2.2.2.2.1.warm hW.alike hh', h.2.2.2.2.2.2.1.warm hW.alike hh', fun E F cE cF a b q x y => ?_⟩
  rw [hW.alike.findClass] at x y
  rw [hW.alike.assignable]
  exact h.2.2.2.2.2.2.2 E F cE cF a b q x y
theorem zk_blind {Θ : zk_T} {Γ : zk_G} (hT : zk_gt Θ) {sz : Nat} {as : List za_V} {μ : za_M} : FrameBlind (zk_Pc Θ Γ sz as μ) := by
  intro a U g mk h
  exact ⟨h.1, h.2.1, h.2.2.1, h.2.2.2.1, zk_I.warm (U := U.calling g mk a) hT (State.WarmedH.refl U) (fun _ _ _ => rfl) h.2.2.2.2⟩
theorem zk_at_spec {t : Nat} {prog : List za_E} {e : za_E} {r : List za_E} (h : za_at t prog = e :: r) : e.1 = t ∧ (∀ x ∈ e :: r, x ∈ prog) ∧ (zk_ch prog → zk_ch (e :: r)) := by
  induction prog with
  | nil => cases h
  | cons a b ih =>
    unfold za_at at h
    split at h
    · rename_i hb
      cases h
      exact ⟨Nat.eq_of_beq_eq_true hb, fun x hx => hx, fun hc => hc⟩
    · obtain ⟨h1, h2, h3⟩ := ih h
      refine ⟨h1, fun x hx => List.mem_cons_of_mem _ (h2 x hx), fun hc => h3 ?_⟩
      cases b with
      | nil => trivial
      | cons b1 b2 => exact hc.2
theorem za_oks_app {cn : Nat → Nat} {a b : List za_V} : za_oks cn (a ++ b) ↔ za_oks cn a ∧ za_oks cn b := by
  induction a with
  | nil => exact ⟨fun h => ⟨trivial, h⟩, fun h => h.2⟩
  | cons v a ih =>
    show (za_ok cn v ∧ za_oks cn (a ++ b)) ↔ ((za_ok cn v ∧ za_oks cn a) ∧ za_oks cn b)
    rw [ih]
    exact ⟨fun h => ⟨⟨h.1, h.2.1⟩, h.2.2⟩, fun h => ⟨h.1.1, h.1.2, h.2⟩⟩
theorem za_oks_rev {cn : Nat → Nat} {a : List za_V} : za_oks cn a.reverse ↔ za_oks cn a := by
  induction a with
  | nil => exact Iff.rfl
  | cons v a ih =>
    rw [List.reverse_cons, za_oks_app, ih]
    exact ⟨fun h => ⟨h.2.1, h.1⟩, fun h => ⟨h.2, h.1, trivial⟩⟩
theorem za_oks_split {cn : Nat → Nat} {a t : List za_V} (h : za_oks cn (a.reverse ++ t)) : za_oks cn a ∧ za_oks cn t := by
  rw [za_oks_app, za_oks_rev] at h
  exact h
