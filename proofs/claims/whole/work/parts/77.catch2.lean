/-! METHODS THAT CATCH: contracts, calls of them, methods by runs -/
section ZXA
variable {p : Program} {l : Launch} {e : Env} {R : Room} {s : State} {m : MethodId} {args : Array Value} {below : List Frame} {meth : Method} {c : Code} {H : Heap} {locs : List Loc} {cells slots mc ms : Nat} {Qc : Array Value → State → Outcome → State → Prop} {free : Addr → Prop}
theorem zx_ofC {y : MethodName} {ws ws' : List Cond} {rm : Room} {Pc : Array Value → State → Prop} {cc : ByteArray} {maxL : Nat} {ret : Option FieldType} {hs : List (Nat × Nat × Nat × Nat)}
    (hy : plainName y.cls = true) (hw : ws = Cond.codeWith y cc maxL ret hs :: ws')
    (body : ∀ p e s m args below meth c s₁, BodyLoose p l y (headSpec ws rm) cc maxL ret e s m args below meth c s₁ → c.maxLocals = maxL → c.exceptionTable.toList = tableOf hs → Pc args s →
      W p l e (headSpec ws rm).room s m args below meth c s.heap [] 0 0 (zx_MQ below Qc args s mc ms free) (entryFrame m args maxL)) : zx_Met l y ws rm Pc Qc mc ms free := by
  refine MetFree.of_bodyS (code := cc) (maxLocals := maxL) (ret := ret) hy ?_ ?_
  · intro args s m h hn
    obtain ⟨m', meth, c, h0, h1, h2, h3, h4, h5, h6, h7, -⟩ := Cond.codeWith_spec (atoms_spec (ws := ws) h _ (by rw [hw]; exact List.mem_cons_self))
    cases hn.symm.trans h0
    exact ⟨meth, c, h1, h2, h3, h4, h6, h7⟩
  · intro p e s m args below meth c s₁ B hml hP _
    have hh0 : s₁.heap = s.heap := by rw [B.state]; rfl
    have hc0 := (atoms_spec (ws := ws) B.pre) _ (by rw [hw]; exact List.mem_cons_self)
    obtain ⟨m', meth', c', g0, g1, g2, g3, g4, g5, g6, g7, g8⟩ := Cond.codeWith_spec hc0
    cases B.named.symm.trans g0
    cases B.method.symm.trans g1
    have hcc : meth.code = some c := by
      have h := B.here.code
      rw [State.code?_eq, B.method₁] at h
      exact h
    cases hcc.symm.trans g2
    obtain ⟨t, a1, o, b1, b2, b3⟩ := body p e s m args below meth c s₁ B hml (by rw [← g5, table_eq]) hP s₁ hh0 (Stand.of_body B)
    exact ⟨t, o, a1, b1, b2, b3⟩
end ZXA
section ZXB
variable {p : Program} {l : Launch} {e : Env} {R : Room} {s : State} {m : MethodId} {sargs : Array Value} {below : List Frame} {meth : Method} {c : Code} {locs : List Loc} {cells slots mc ms len W9 : Nat} {y : MethodName}
theorem zx_backC {hs : List (Nat × Nat × Nat × Nat)} {ws : List Cond} {rm : Room} {Pc : Array Value → State → Prop} {Qc : Array Value → State → Outcome → State → Prop} {free : Addr → Prop} {bytes : ByteArray} {maxL : Nat} {ret : Option FieldType} {U : State} {g : JFrame} {ig : Instr} {mk : MethodId} {a : Array Value}
    (hM : zx_Met l y ws rm Pc Qc mc ms free) (hblind : FrameBlind Pc) (hrc : rm.cells = mc) (hrs : rm.slots = ms) (hframes : rm.frames + 1 ≤ R.frames) (hlocals : W9 + (maxL + 11) + rm.locals ≤ R.locals)
    (hws : ∀ w ∈ ws, ∀ (a' : Array Value) (U : State), s.WarmedH U.vm → w.before a' U = true) (hcode : Cond.codeWith y bytes maxL ret hs ∈ ws) (hinit : ∀ (a' : Array Value) (U : State), s.WarmedH U.vm → (Cond.initialized y.cls).before a' U = true)
    (X : Stand p l e R s m sargs below meth c U locs cells slots) (hg : g.method = m) (hsize : g.locals.size = c.maxLocals) (hdg : decode c.code g.pc = .ok (ig, len)) (hW : 2 * g.monitorRoom + (g.stack.map fun v => v.category).sum ≤ W9) (hn : U.methodNamed? y = some mk)
    (hcells : cells + mc ≤ R.cells) (hslots : slots + ms ≤ R.slots) (hPc : Pc a U) :
    ∃ (o : Outcome) (t T' : State) (L : List Loc), Qc a (U.calling g mk a) o t ∧ T'.heap = t.heap ∧ T'.vm = t.vm ∧ (∀ q ∈ L, free q.base) ∧ Stand p l e R s m sargs below meth c T' (locs ++ L) (cells + mc) (slots + ms) ∧
      ((∃ v, o = .returned v ∧ Steps p.tables e below (doInvoke e (U.setTop g) [] mk a).1 (T'.setTop { g with pc := g.pc + len, stack := v.toList ++ g.stack })) ∨ (∃ q, o = .threw q ∧ Steps p.tables e below (doInvoke e (U.setTop g) [] mk a).1 ((T'.setTop g).pushFrame (.throwing q)))) := by
  have h1 : (headSpec ws rm).pre.before a U = true := atoms_intro fun w hw => hws w hw _ _ X.warmed
  have h2 : (Cond.codeWith y bytes maxL ret hs).before a U = true := hws _ hcode _ _ X.warmed
  have h3 : (Cond.initialized y.cls).before a U = true := hinit _ _ X.warmed
  obtain ⟨m', methY, cY, hn', hmY, hcY, -, hlY, -⟩ := Cond.codeWith_spec h2
  cases hn.symm.trans hn'
  obtain ⟨kY, hkY, -⟩ := className_of_methodNamed hn
  have hinitY : kY.init = .initialized := Cond.initialized_spec (findClass_of_methodNamed hn) hkY h3
  have h : At U g.method c below := by rw [hg]; exact X.here
  have happ : (headSpec ws rm).appliesLoose y e.platform (U.calling g mk a) = true :=
    Spec.appliesLoose_calling (g := g) h hdg hn hkY hinitY
      (X.room_calling (g := g) (R' := (headSpec ws rm).room) hsize hmY hcY hframes (by rw [hlY]; show _ ≤ R.locals; have : (headSpec ws rm).room.locals = rm.locals := rfl; omega) (by rw [show (headSpec ws rm).room.cells = mc from hrc]; exact hcells) (by rw [show (headSpec ws rm).room.slots = ms from hrs]; exact hslots)) h1
  obtain ⟨mid, hmid⟩ := h.above
  have hfr : (U.setTop g).frames = (.java g :: mid) ++ below := by rw [State.frames_setTop' g h.top, hmid]; rfl
  obtain ⟨o, s₂, hsteps, -, hend, hq⟩ := Steps.callFree hM p X.admits X.cas X.clock (acts := []) hfr happ (hblind _ _ _ _ hPc) trivial
  rw [State.frames_setTop' g h.top] at hend
  have hq' : zx_Q Qc mc ms free a (U.calling g mk a) o s₂ := hq
  obtain ⟨hQ, hW₂, L, hsn, hL⟩ := hq'
  obtain ⟨e2, q2, q3, q4, q5, q6⟩ := hsn
  have e3 : s₂ = ({ (U.calling g mk a).setFrames s₂.frames with heap := s₂.heap, slotsUsed := s₂.slotsUsed } : State).setVm s₂.vm := by
    have : s₂ = ({ s₂ with vm := (U.calling g mk a).vm } : State).setVm s₂.vm := rfl
    rw [e2] at this
    exact this
  have hW' : U.WarmedH s₂.vm := hW₂
  obtain ⟨g₀, hg0⟩ := Option.isSome_iff_exists.mp h.top
  obtain ⟨r, hr⟩ := State.topJava?_eq_some.mp hg0
  have hr' : (({ U with heap := s₂.heap, slotsUsed := s₂.slotsUsed } : State).setVm s₂.vm).frames = .java g₀ :: r := hr
  have hsame : U.sameButNew ({ U with heap := s₂.heap, slotsUsed := s₂.slotsUsed } : State) L mc ms := by
    refine ⟨?_, q2, q3, q4, q5, q6⟩
    obtain ⟨t, ht, -⟩ := State.frames_cons hr
    show ({ U with heap := s₂.heap, slotsUsed := s₂.slotsUsed } : State) = { U.setFrames U.frames with heap := s₂.heap, slotsUsed := s₂.slotsUsed }
    rw [State.setFrames_self ht]
  subst hg
  refine ⟨o, s₂, (({ U with heap := s₂.heap, slotsUsed := s₂.slotsUsed } : State).setVm s₂.vm), L, hQ, rfl, rfl, hL,
    ⟨X.admits, X.cas, X.clock, X.frames, X.room, X.hears, X.method, X.code, (X.here.setHeapUsed s₂.heap s₂.slotsUsed).setVm hW'.alike, X.tail, State.WarmedH.trans X.warmed hW', X.limits, X.bytes, X.same.trans (hsame.setVm s.vm)⟩, ?_⟩
  cases o with
  | returned v =>
    left
    refine ⟨v, rfl, ?_⟩
    obtain ⟨c₂, i₂, len₂, hc₂, hd₂, hf₂⟩ := hend
    have hcc : c₂ = c := by
      have h1 : s₂.code? g.method = U.code? g.method := by
        rw [State.code?_eq, State.code?_eq, hW'.alike.method?]
      exact Option.some.inj (hc₂.symm.trans (h1.trans h.code))
    subst hcc
    have hlen : len₂ = len := by rw [hdg] at hd₂; cases hd₂; rfl
    subst hlen
    have hs₂ : s₂ = (({ U with heap := s₂.heap, slotsUsed := s₂.slotsUsed } : State).setVm s₂.vm).setTop { g with pc := g.pc + len₂, stack := v.toList ++ g.stack } := by
      refine e3.trans ?_
      rw [hf₂, State.calling_eq h.top, State.setFrames_setFrames, State.setTop_of_frames _ hr', hr]
      rfl
    rw [← hs₂]
    exact hsteps
  | threw q =>
    right
    refine ⟨q, rfl, ?_⟩
    have hf₂ : s₂.frames = .throwing q :: .java g :: r := by
      have h9 : s₂.frames = .throwing q :: (.java g :: U.frames.tail) := hend
      rw [h9, hr]
      rfl
    have hs₂ : s₂ = ((({ U with heap := s₂.heap, slotsUsed := s₂.slotsUsed } : State).setVm s₂.vm).setTop g).pushFrame (.throwing q) := by
      refine e3.trans ?_
      rw [State.pushFrame, State.frames_setTop _ hr', State.setTop_of_frames _ hr', State.setFrames_setFrames, hf₂, State.calling_eq h.top, State.setFrames_setFrames]
      rfl
    rw [← hs₂]
    exact hsteps
end ZXB
section ZXC
variable {p : Program} {l : Launch} {e : Env} {R : Room} {s : State} {m : MethodId} {args : Array Value} {below : List Frame} {meth : Method} {c : Code} {H : Heap} {locs : List Loc} {cells slots mc ms : Nat} {Q : State → Prop}
variable {y : MethodName} {bytes cc : ByteArray} {maxL nL n index : Nat} {ret : Option FieldType} {ws : List Cond} {rm : Room} {Pc : Array Value → State → Prop} {Qc : Array Value → State → Outcome → State → Prop} {free : Addr → Prop} {own C : String} {b : Addr} {As rest : List Value} {g : JFrame}
theorem zx_runSC {hs : List (Nat × Nat × Nat × Nat)} (hx : p.tables.exec = Jvm.exec) (hb : c.code = cc) (hml : c.maxLocals = nL) (ho : s.vm.findClass own = some m.cls) (hM : zx_Met l y ws rm Pc Qc mc ms free) (hrc : rm.cells = mc) (hrs : rm.slots = ms) (hfr : rm.frames + 1 ≤ R.frames) (hlo : 8 + (maxL + 11) + rm.locals ≤ R.locals) (hws : ∀ w ∈ ws, ∀ (a' : Array Value) (U : State), s.WarmedH U.vm → w.before a' U = true) (hcw : Cond.codeWith y bytes maxL ret hs ∈ ws) (hcode : (Cond.codeWith y bytes maxL ret hs).before args s = true) (hini : (Cond.initialized y.cls).before args s = true) (hy : y.cls ≠ "java/lang/invoke/MethodHandle" ∧ y.cls ≠ "java/lang/invoke/VarHandle") (hlen : ∀ sig, parseMethodDescriptor y.desc = some sig → n = sig.parameters.length) (hl : (Cond.methodLink own index y).before args s = true) (hstat : (Cond.static y).before args s = true) (hp : PreS s H Pc As)
    (hg : g.method = m) (hn : As.length = n) (hsize : g.locals.size = nL) (hstack : g.stack = As.reverse ++ rest) (hW : 2 * g.monitorRoom + (rest.map fun v => v.category).sum ≤ 8) (hdg : decode cc g.pc = .ok (.invokestatic index, 3)) (hf : cells + mc ≤ R.cells ∧ slots + ms ≤ R.slots)
    (k : ∀ (o : Outcome) (st₀ t : State) (L : List Loc), st₀.heap = H → s.vm.Alike st₀.vm → Qc As.toArray st₀ o t → s.vm.Alike t.vm → (∀ q ∈ L, free q.base) →
      (∀ v, o = .returned v → W p l e R s m args below meth c t.heap (locs ++ L) (cells + mc) (slots + ms) Q { g with pc := g.pc + 3, stack := v.toList ++ rest }) ∧ (∀ q, o = .threw q → zx_WX p l e R s m args below meth c t.heap (locs ++ L) (cells + mc) (slots + ms) Q { g with stack := rest } q)) : W p l e R s m args below meth c H locs cells slots Q g := by
  obtain ⟨hblind, hPc⟩ := hp
  intro T hT X
  obtain ⟨mk, methM, cM, hnamed, hmethM, -, -, -, -, -, -, hsigM⟩ := Cond.codeWith_spec hcode
  have hstatic : methM.isStatic = true := Cond.static_spec hnamed hmethM hstat
  obtain ⟨kP, hkP, -⟩ := className_of_methodNamed hnamed
  have hinitP : kP.init = .initialized := Cond.initialized_spec (findClass_of_methodNamed hnamed) hkP hini
  obtain ⟨vm₁, X₁, hstep₁⟩ := X.invokestatic hx ho hl hnamed hmethM hstatic hkP hinitP hy (g := g) hg (argsL := As) (rest := rest) (hn.trans (hlen _ hsigM)) hstack (by rw [hb]; exact hdg)
  obtain ⟨o, t, T', L, hQ, e1, e2, hL, X', hend⟩ := zx_backC (g := { g with stack := rest }) (len := 3) (W9 := 8) (a := As.toArray) hM hblind hrc hrs hfr hlo hws hcw (fun a' U hW => word_at hW (Or.inl (by first | rfl | simp [Cond.onTables, Cond.keeps, Cond.steady])) hini) X₁ hg (hsize.trans hml.symm) (by rw [hb]; exact hdg) hW (X₁.named hnamed) hf.1 hf.2 (hPc (T.setVm vm₁) hT X₁.warmed)
  have k1 := k o ((T.setVm vm₁).calling { g with stack := rest } mk As.toArray) t L hT X₁.warmed.alike hQ (by rw [← e2]; exact X'.warmed.alike) hL
  rcases hend with ⟨v, hv, st⟩ | ⟨q, hq, st⟩
  · obtain ⟨t2, a1, b1⟩ := k1.1 v hv T' e1 X'
    exact ⟨t2, hstep₁ _ fun acts => by rw [doInvoke_state]; exact st.trans a1, b1⟩
  · obtain ⟨t2, a1, b1⟩ := k1.2 q hq T' e1 X'
    exact ⟨t2, hstep₁ _ fun acts => by rw [doInvoke_state]; exact st.trans a1, b1⟩
end ZXC
/-- the contract of a method that catches all -/
def zk_CtC (Θ : zk_T) (Γ : zk_G) (M : zk_Me) (hs : List (Nat × Nat × Nat × Nat)) (d mc ms : Nat) (as : List za_V) (μ : za_M) (post : Option za_V → za_M → Prop) : Prop :=
  ∀ sz : Nat, zx_Met Γ.1 M.2.2.1 [Cond.codeWith M.2.2.1 M.2.2.2.1 M.2.2.2.2.1 M.2.2.2.2.2 hs] (zk_rm d mc ms) (zk_Pc Θ Γ sz as μ) (zk_Qc Θ Γ sz post (fun _ _ => False)) mc ms (zk_A Θ Γ sz)
set_option maxHeartbeats 4000000 in
theorem zk_methC {Θ : zk_T} {Γ : zk_G} {M : zk_Me} {d mc ms : Nat} {as : List za_V} {μ : za_M} {post : Option za_V → za_M → Prop} {hs : List (Nat × Nat × Nat × Nat)} {L : List (Nat × ExceptionTableEntry)} (hT : zk_gt Θ) (hpn : plainName M.2.2.1.cls = true) (htab : tableOf hs = L.map Prod.snd) (hLL : ∀ q ∈ L, q.1 < 3 ∧ q.2.catchType ≠ 0 ∧ Cond.classLink M.2.2.1.cls q.2.catchType (Θ.2.2.2.2.2.2 q.1) ∈ Θ.2.2.2.2.1) (prog : List za_E) (hprog : ∀ E ∈ prog, za_gd M.2.2.2.1 M.2.2.1.cls Θ.2.2.2.2.1 Θ.2.2.1 E ∧ zk_gc Θ M.2.2.1.cls E) (hch : zk_ch prog) (hcov : ∀ E ∈ prog, ∀ k, (E.2.1 = .invokevirtual k ∨ E.2.1 = .invokestatic k) → ∀ q ∈ L, covers q.2 E.1 = true) (hargs : (zk_l0 as).length ≤ M.2.2.2.2.1) (hd : 1 ≤ d)
    (body : ∀ ZZ : Nat → za_K, (∀ (cuts : List Nat) (n pc : Nat) ls st μ κ, zk_go Θ.1 zk_X0 (zk_rt M.2.2.2.2.2) (zk_RR mc ms post) (fun _ _ _ => False) (zk_CC Θ Γ d mc ms) (fun _ x ls ν κ => ∃ hpc, x < 3 ∧ zc_h x L = some hpc ∧ ∀ q, ZZ hpc ls [za_q q] ν κ) prog cuts ZZ n pc ls st μ κ → ZZ pc ls st μ κ) → ZZ 0 (zk_ls as M.2.2.2.2.1) [] μ (0, 0)) :
    zk_CtC Θ Γ M hs d mc ms as μ post := by
  intro sz
  refine zx_ofC (cc := M.2.2.2.1) (maxL := M.2.2.2.2.1) (ret := M.2.2.2.2.2) (hs := hs) (ws' := []) hpn rfl ?_
  intro p e s m args below meth c s₁ B hml htb hP
  obtain ⟨rfl, hsz, hH, hoks, hI⟩ := hP
  subst hsz
  have hx := B.exec
  have hb := B.bytes
  have hr := B.returns
  have hlocks := B.notSynchronized
  have hown : s.vm.findClass M.2.2.1.cls = some m.cls := findClass_of_methodNamed B.named
  have C0 : za_Cx p s m (as.map (za_cv Γ.2.1)).toArray c Θ.1 Θ.2.1 Γ.2.1 Γ.2.2.1 Γ.2.2.2.1 Θ.2.2.1 (zk_A Θ Γ s.heap.size) M.2.2.2.1 Γ.2.2.2.2 zk_X0 M.2.2.1.cls Θ.2.2.2.2.1 Θ.2.2.2.1 :=
    ⟨hx, hb, fun w hw => hI.1 w hw _, hown, hI.2.1, zk_D hI.2.2.1, hT.1, hI.2.2.2.1, hT.2.1, fun h => by cases h⟩
  rw [lg_entry_eq]
  have key := body (zk_Z p e (zk_rm d mc ms) s m (as.map (za_cv Γ.2.1)).toArray below meth c (zx_MQ below (zk_Qc Θ Γ s.heap.size post (fun _ _ => False)) (as.map (za_cv Γ.2.1)).toArray s mc ms (zk_A Θ Γ s.heap.size)) Θ Γ M.2.2.2.2.1) ?_
  · exact key trivial (fun i v hv => zk_oks_mem hoks (zk_l0_mem Γ.2.1 as 0 i v (zk_ls_at hv)).2) _ _ [] (zk_entry hargs) hH va_S.rf
  · refine zk_go_sound hch ?_
    intro E hE K J ls st ν κ hK hJ h
    obtain ⟨hgd, hgc⟩ := hprog E hE
    refine ze_step C0 hgd hK hJ ?_ ?_ ?_ ?_ ?_ ?_ ?_ h
    · rintro x ν κ hret ⟨h1, h2, hp⟩ hdg g1 g2 lc H locs g3 g4 g5
      refine zx_ret (W.widen h1 h2 ?_)
      rcases hret with h0 | ⟨h0, h01⟩
      · have h9 : M.2.2.2.2.2 = some .int := by
          revert h0
          unfold zk_rt
          split <;> simp_all
        exact W.iret (v := x) hx hb (hr.trans h9) (fun t ht hW => ⟨Or.inl ⟨some (za_i x), ν, rfl, trivial, hp, by rw [ht]; exact g4⟩, g5.F ht⟩) g5.2.2 hdg
      · have h9 : M.2.2.2.2.2 = some .boolean := by
          revert h0
          unfold zk_rt
          split <;> simp_all
        exact W.zret (v := x) (ty := .boolean) hx hb (hr.trans h9) (za_narF h01).1 (fun t ht hW => ⟨Or.inl ⟨some (za_i x), ν, rfl, trivial, hp, by rw [ht]; exact g4⟩, g5.F ht⟩) g5.2.2 hdg
    · rintro x ν κ h0 ⟨h1, h2, hp⟩ hdg g1 g2 lc H locs g3 g4 g5
      refine zx_ret (W.widen h1 h2 ?_)
      have h9 : M.2.2.2.2.2 = some .long := by
        revert h0
        unfold zk_rt
        split <;> simp_all
      exact W.lret (v := x) hx hb (hr.trans h9) (fun t ht hW => ⟨Or.inl ⟨some (za_l x), ν, rfl, trivial, hp, by rw [ht]; exact g4⟩, g5.F ht⟩) g5.2.2 hdg
    · rintro r ν κ h0 ⟨h1, h2, hp⟩ hdg g1 g2 lc H locs g3 g4 g5
      refine zx_ret (W.widen h1 h2 ?_)
      obtain ⟨a, ha⟩ := za_cvA Γ.2.1 r
      have h9 : ∃ rt, M.2.2.2.2.2 = some rt ∧ ((∃ n, rt = .object n) ∨ ∃ t, rt = .array t) := by
        revert h0
        unfold zk_rt
        split <;> simp_all
      obtain ⟨rt, h9, h10⟩ := h9
      exact W.aret (v := za_cv Γ.2.1 (.inr (.inr r))) (rt := rt) hx hb (hr.trans h9) h10 (Or.inr ⟨a, ha⟩) (fun t ht hW => ⟨Or.inl ⟨some (.inr (.inr r)), ν, rfl, g1.1, hp, by rw [ht]; exact g4⟩, g5.F ht⟩) g5.2.2 hdg
    · rintro ν κ h0 ⟨h1, h2, hp⟩ hdg g1 g2 lc H locs g3 g4 g5
      refine zx_ret (W.widen h1 h2 ?_)
      have h9 : M.2.2.2.2.2 = none := by
        revert h0
        unfold zk_rt
        split <;> simp_all
      exact W.vret hx hb (hr.trans h9) (fun t ht hW => ⟨Or.inl ⟨none, ν, rfl, trivial, hp, by rw [ht]; exact g4⟩, g5.F ht⟩) g5.2.2 hdg
    · intro k as' t hst hlen hwt hin h999 hCC
      have hdg := hgd.1
      have hnx := hgd.2.1
      have h3 : za_ln E.2.1 E.2.2.2.2.1 = 3 := by rcases hin with h | h | h <;> rw [h] <;> rfl
      rw [h3] at hdg hnx
      have hsp : ¬ E.2.1 = .invokespecial k := by
        intro hq
        unfold zk_gc at hgc
        rw [hq] at hgc
        exact hgc
      intro g1 g2 lc0 H0 locs0 g3 g4 g5
      refine zk_call (k := k) hT C0 hI hml hgc hdg hnx hst hlen hwt ?_ (fun r μ1 κ1 hr => ?_) (fun x μ1 κ1 q ce lc H1 locs1 hf hlo hH1 hS1 hq hv hcl => ?_) hCC g1 g2 lc0 H0 locs0 g3 g4 g5
      · rcases hin with h | h | h
        · exact Or.inl h
        · exact absurd h hsp
        · exact Or.inr ⟨h, h999 h⟩
      · cases r with
        | none => exact hK _ _ _ _ hr
        | some v => exact hK _ _ _ _ hr
      · obtain ⟨hpc, hx3, hh, hz⟩ := hf
        have hc9 : E.2.1 = .invokevirtual k ∨ E.2.1 = .invokestatic k := by
          rcases hin with h | h | h
          · exact Or.inl h
          · exact absurd h hsp
          · exact Or.inr h
        refine zc_catch hI hown (by rw [htb]; exact htab) (fun q hq => ⟨(hLL q hq).1, hcov E hE k hc9 q hq, (hLL q hq).2.1, (hLL q hq).2.2⟩) hh hx3 hq hv hcl ?_
        exact hz q ⟨trivial, trivial⟩ g2 lc H1 locs1 hlo hH1 hS1
    · intro k hi h999 hcp
      unfold zk_gc at hgc
      rw [hi] at hgc
      have hdg := hgd.1
      have hnx := hgd.2.1
      rw [hi] at hdg hnx
      rcases hgc with ⟨-, g1, g2, g3, g4⟩ | ⟨M', g0, -⟩
      · rw [hnx] at hK
        refine zf_cp hx hb hml hI.2.1 (zk_D hI.2.2.1) hI.2.2.2.1 hown (hI.1 _ g1 _) (hI.1 _ g2 _) (hI.1 _ g3 _) (hI.1 _ g4 _) hd ?_ hdg (za_cp_mono (fun v t h => hK _ _ _ _ h) hcp)
        show 8 + (nativeFrameWords "java/lang/System" "arraycopy" 5 + 11) ≤ 64 * d
        have : nativeFrameWords "java/lang/System" "arraycopy" 5 ≤ 45 := by decide
        omega
      · exact absurd h999 g0
    · intro k hi hf
      exact hf.2.elim
