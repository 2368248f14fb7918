/-! CATCHING, cold or warm -/
/-- what the search gives, and the tables behind it -/
def zc_F (e : Env) (s : State) (f : JFrame) (a : Addr) (h : Handler) (vm' : Vm) : Prop := ∀ (Q : Handler → Pre) (E : CtlPost) (d : Bool) (acts : List Action), wp (findHandler f a) Q E e d acts s ↔ Q h d acts (s.setVm vm')
def zc_G (e : Env) (s : State) (f : JFrame) (a : Addr) (t : List ExceptionTableEntry) (h : Handler) (vm' : Vm) : Prop := ∀ (Q : Handler → Pre) (E : CtlPost) (d : Bool) (acts : List Action), wp (findHandler.go f a t) Q E e d acts s ↔ Q h d acts (s.setVm vm')
theorem zc_cold {e : Env} {s : State} {f : JFrame} {a : Addr} {x : ExceptionTableEntry} {t : List ExceptionTableEntry} {c : ClassId} {vm' : Vm} (hx : covers x f.pc = true) (h0 : x.catchType ≠ 0)
    (hg : (Jvm.resolveClass f.method.cls x.catchType).Gives e.toSetting s.vm (.ok c) vm') (hr : vm'.classReady f.method.cls x.catchType c) (hsz : vm'.classes.size ≤ s.vm.classes.size) {Q : Handler → Pre} {E : CtlPost} {d : Bool} {acts : List Action} :
    wp (findHandler.go f a (x :: t)) Q E e d acts s ↔ wp (findHandler.go f a (x :: t)) Q E e d acts (s.setVm vm') := by
  obtain ⟨ha, ht⟩ := hg.op (op := VmOp.resolveClass f.method.cls x.catchType) rfl
  obtain ⟨k, hkd, hres⟩ := hr
  simp only [covers] at hx
  simp [findHandler.go, hx, h0, ha, ht, hsz, resolveClass_memo e hkd hres, VmOp.dirties, VmOp.acts]
  exact Iff.rfl
theorem zc_hit {e : Env} {s : State} {f : JFrame} {a : Addr} {x : ExceptionTableEntry} {t : List ExceptionTableEntry} {c : ClassId} {cell : Cell} {vm' : Vm} (hx : covers x f.pc = true) (h0 : x.catchType ≠ 0)
    (hg : (Jvm.resolveClass f.method.cls x.catchType).Gives e.toSetting s.vm (.ok c) vm') (hr : vm'.classReady f.method.cls x.catchType c) (hsz : vm'.classes.size ≤ s.vm.classes.size) (hcell : s.heap[a]? = some cell) (hobj : ∀ k, cell.vm ≠ .statics k)
    (hk : ∃ k, vm'.classes[cell.cls]? = some k) (hc : ∃ k, vm'.classes[c]? = some k) (hfit : vm'.assignable cell.cls c = true) : zc_G e s f a (x :: t) (.found x.handlerPc) vm' := by
  intro Q E d acts
  rw [zc_cold hx h0 hg hr hsz, W.findHandler_go_class (s := s.setVm vm') hx h0 hr hcell hobj hk hc, if_pos (show (s.setVm vm').vm.assignable cell.cls c = true from hfit)]
theorem zc_miss {e : Env} {s : State} {f : JFrame} {a : Addr} {x : ExceptionTableEntry} {t : List ExceptionTableEntry} {c : ClassId} {cell : Cell} {vm' vm2 : Vm} {h : Handler} (hx : covers x f.pc = true) (h0 : x.catchType ≠ 0)
    (hg : (Jvm.resolveClass f.method.cls x.catchType).Gives e.toSetting s.vm (.ok c) vm') (hr : vm'.classReady f.method.cls x.catchType c) (hsz : vm'.classes.size ≤ s.vm.classes.size) (hcell : s.heap[a]? = some cell) (hobj : ∀ k, cell.vm ≠ .statics k)
    (hk : ∃ k, vm'.classes[cell.cls]? = some k) (hc : ∃ k, vm'.classes[c]? = some k) (hfit : vm'.assignable cell.cls c = false) (hrest : zc_G e (s.setVm vm') f a t h vm2) : zc_G e s f a (x :: t) h vm2 := by
  intro Q E d acts
  rw [zc_cold hx h0 hg hr hsz, W.findHandler_go_class (s := s.setVm vm') hx h0 hr hcell hobj hk hc, if_neg (show ¬ (s.setVm vm').vm.assignable cell.cls c = true by show ¬ vm'.assignable cell.cls c = true; rw [hfit]; decide), hrest]
  exact Iff.rfl
theorem zc_all {e : Env} {s : State} {f : JFrame} {a : Addr} {meth : Method} {code : Code} {h : Handler} {vm' : Vm} (hm : s.vm.method? f.method = some meth) (hc : meth.code = some code) (hG : zc_G e s f a code.exceptionTable.toList h vm') : zc_F e s f a h vm' := fun Q E d acts => (W.findHandler_eq hm hc).trans (hG Q E d acts)
theorem zc_step {e : Env} {s : State} {a : Addr} {f : JFrame} {r : List Frame} {pc : Nat} {vm' : Vm} (hfind : zc_F e s f a (.found pc) vm') :
    (stepThrowing e s a (.java f :: r)).Is ((s.setVm vm').setFrames (.java { f with pc := pc, stack := [.ref a] } :: r)) [] := by
  simp only [stepThrowing, searchFrame, vmDo]
  generalize hr : Sem.go _ e false [] s = res
  obtain ⟨as, rfl, ha⟩ := Sem.eq_ok_of hr (a := Handler.found pc) (s' := s.setVm vm') (acts' := []) (by simp [hfind _ _ _ _])
  exact ⟨rfl, ha⟩
theorem zc_caught {tb : Tables} {e : Env} {s target : State} {g : JFrame} {c : Code} {below : List Frame} {a : Addr} (h : At s g.method c below) {pc : Nat} {vm' : Vm} (hfind : zc_F e ((s.setTop g).pushFrame (.throwing a)) g a (.found pc) vm')
    (hrest : Steps tb e below ((s.setVm vm').setTop { g with pc := pc, stack := [.ref a] }) target) :
    Steps tb e below ((s.setTop g).pushFrame (.throwing a)) target := by
  obtain ⟨hgo, hw⟩ := h.throwing a
  refine Steps.head hgo hw ?_
  rw [stepThread_throwing (frames_entered h.top _), (zc_step (s := (s.setTop g).pushFrame (.throwing a)) hfind).1]
  obtain ⟨g₀, hg⟩ := Option.isSome_iff_exists.mp h.top
  obtain ⟨r, hr⟩ := State.topJava?_eq_some.mp hg
  have hr' : (s.setVm vm').frames = .java g₀ :: r := hr
  rw [State.setTop_of_frames _ hr'] at hrest
  rw [State.pushFrame, State.setTop_of_frames _ hr]
  have e1 : (((s.setFrames (.java g :: r)).setFrames (.throwing a :: (s.setFrames (.java g :: r)).frames)).setVm vm').setFrames (.java { g with pc := pc, stack := [.ref a] } :: s.frames.tail) = (s.setVm vm').setFrames (.java { g with pc := pc, stack := [.ref a] } :: r) := by
    rw [hr]
    show ((((s.setVm vm').setFrames (.java g :: r)).setFrames (.throwing a :: (s.setFrames (.java g :: r)).frames))).setFrames (.java { g with pc := pc, stack := [.ref a] } :: r) = _
    rw [State.setFrames_setFrames, State.setFrames_setFrames]
  rw [e1]
  exact hrest
theorem zc_refl (vm : Vm) (c : ClassId) : vm.assignable c c = true := by
  show vm.assignableAux (255 + 1) c c = true
  rw [Vm.assignableAux]
  simp
/-- the handler of the exception x among entries with the numbers of their classes -/
def zc_h (x : Nat) : List (Nat × ExceptionTableEntry) → Option Nat
  | [] => none
  | q :: r => if q.1 = x then some q.2.handlerPc else zc_h x r
theorem zc_list {Θ : zk_T} {Γ : zk_G} {e : Env} {s : State} {f : JFrame} {a : Addr} {ce : Cell} {own : String} {x hpc : Nat} {args : Array Value} (hI : zk_I Θ Γ s) (hpl : e.platform.magicAccessors = ({} : Platform).magicAccessors) (hown : s.vm.findClass own = some f.method.cls) (hx : x < 3) (hcl : s.vm.findClass (Θ.2.2.2.2.2.2 x) = some ce.cls) (hv : ce.vm = .none) :
    ∀ (L : List (Nat × ExceptionTableEntry)) (U : State), (∀ q ∈ L, q.1 < 3 ∧ covers q.2 f.pc = true ∧ q.2.catchType ≠ 0 ∧ Cond.classLink own q.2.catchType (Θ.2.2.2.2.2.2 q.1) ∈ Θ.2.2.2.2.1) → zc_h x L = some hpc → s.WarmedH U.vm → U.heap[a]? = some ce → ∃ vm' : Vm, s.WarmedH vm' ∧ zc_G e U f a (L.map Prod.snd) (.found hpc) vm'
  | [], U, _, hh, _, _ => by cases hh
  | q :: r, U, hL, hh, hW, hce => by
    obtain ⟨h1, h2, h3, h4⟩ := hL q List.mem_cons_self
    obtain ⟨c, hfc, hlk⟩ := Cond.classLink_spec (args := #[]) hown (hI.1 _ h4 #[]) e.platform hpl
    obtain ⟨hg, hwarm, hready⟩ := State.classEntry (e := e) hW hlk
    have hsz : (U.vm.noted f.method.cls q.2.catchType (.cls c)).classes.size ≤ U.vm.classes.size := by rw [Vm.size_noted]; exact Nat.le_refl _
    generalize U.vm.noted f.method.cls q.2.catchType (.cls c) = vm₁ at hg hwarm hready hsz
    have hk : ∃ k, vm₁.classes[ce.cls]? = some k := Vm.classAt_of_findClass (by rw [hwarm.alike.findClass]; exact hcl)
    have hc : ∃ k, vm₁.classes[c]? = some k := Vm.classAt_of_findClass (by rw [hwarm.alike.findClass]; exact hfc)
    have hobj : ∀ k, ce.vm ≠ .statics k := fun k z => by rw [hv] at z; cases z
    by_cases hq : q.1 = x
    · have e1 : some q.2.handlerPc = some hpc := by rw [← hh]; unfold zc_h; rw [if_pos hq]
      cases e1
      have e2 : c = ce.cls := by rw [hq] at hfc; exact Option.some.inj (hfc.symm.trans hcl)
      exact ⟨vm₁, hwarm, zc_hit h2 h3 hg hready hsz hce hobj hk hc (by rw [e2]; exact zc_refl _ _)⟩
    · have e1 : zc_h x r = some hpc := by rw [← hh]; conv => rhs; unfold zc_h; rw [if_neg hq]
      obtain ⟨vm2, w2, g2⟩ := zc_list (args := args) hI hpl hown hx hcl hv r (U.setVm vm₁) (fun z hz => hL z (List.mem_cons_of_mem _ hz)) e1 hwarm hce
      refine ⟨vm2, w2, zc_miss h2 h3 hg hready hsz hce hobj hk hc ?_ g2⟩
      rw [hwarm.alike.assignable]
      exact hI.2.2.2.2.2.2.2 x q.1 ce.cls c hx h1 (fun z => hq z.symm) hcl hfc
theorem zc_catch {p : Program} {e : Env} {R : Room} {s : State} {m : MethodId} {args : Array Value} {below : List Frame} {meth : Method} {c : Code} {Q : State → Prop} {Θ : zk_T} {Γ : zk_G} {H : Heap} {locs : List Loc} {cells slots : Nat} {own : String} {L : List (Nat × ExceptionTableEntry)} {x hpc pc q : Nat} {ce : Cell} {lc : Array Slot} {rest : List Value}
    (hI : zk_I Θ Γ s) (hown : s.vm.findClass own = some m.cls) (htab : c.exceptionTable.toList = L.map Prod.snd) (hL : ∀ q ∈ L, q.1 < 3 ∧ covers q.2 pc = true ∧ q.2.catchType ≠ 0 ∧ Cond.classLink own q.2.catchType (Θ.2.2.2.2.2.2 q.1) ∈ Θ.2.2.2.2.1) (hh : zc_h x L = some hpc) (hx : x < 3)
    (hce : H[q]? = some ce) (hv : ce.vm = .none) (hcl : s.vm.findClass (Θ.2.2.2.2.2.2 x) = some ce.cls)
    (k : W p Γ.1 e R s m args below meth c H locs cells slots Q (F0 m hpc lc [.ref q])) : zx_WX p Γ.1 e R s m args below meth c H locs cells slots Q (F0 m pc lc rest) q := by
  intro T hT X
  have hpl : e.platform.magicAccessors = ({} : Platform).magicAccessors := by rw [X.admits.platform]
  have hvm : ((T.setTop (F0 m pc lc rest)).pushFrame (.throwing q)).vm = T.vm := Stand.throwing_vm T _ q
  have hhp : ((T.setTop (F0 m pc lc rest)).pushFrame (.throwing q)).heap = T.heap := Stand.throwing_heap T _ q
  obtain ⟨vm', hW, hG⟩ := zc_list (f := F0 m pc lc rest) (args := args) hI hpl hown hx hcl hv L ((T.setTop (F0 m pc lc rest)).pushFrame (.throwing q)) hL hh (by rw [hvm]; exact X.warmed) (by rw [hhp, hT]; exact hce)
  obtain ⟨t, a1, b1⟩ := k (T.setVm vm') hT (X.noted hW)
  refine ⟨t, zc_caught (g := F0 m pc lc rest) X.here (zc_all (meth := meth) (code := c) ?_ X.code (by rw [htab]; exact hG)) a1, b1⟩
  rw [hvm]
  exact X.method'
