/-! THROWING: an exception of the JDK made and thrown; methods that throw or let go by what a callee threw. -/
theorem zx_hears {s u : State} {m : MethodId} (hmeth : ∀ mm : MethodId, u.vm.method? mm = s.vm.method? mm) (hcode : ∀ mm : MethodId, u.code? mm = s.code? mm) : ∀ {b : List Frame}, s.hears m b = true → u.hears m b = true
  | [], h => by simp only [State.hears] at h ⊢; rw [hmeth]; exact h
  | f :: r, h => by
    cases f <;> simp only [State.hears] at h ⊢ <;> first | (rw [hcode]; exact h) | (rw [hmeth]; exact h) | exact h
theorem va_at_cell {D : va_G} {cl : List vw_C} {q : Nat × va_E} {H : Heap} (h : va_at D cl q H) : ∃ cell, H[q.1]? = some cell := by
  unfold va_at at h
  split at h
  · exact ⟨_, h⟩
  · obtain ⟨r, -, cell, h1, -⟩ := h
    exact ⟨cell, h1⟩
/-- a method's standing, anew from where it is -/
theorem zx_anew {p : Program} {l : Launch} {e : Env} {R R' : Room} {s : State} {m : MethodId} {args : Array Value} {below : List Frame} {meth : Method} {c : Code} {T : State} {locs : List Loc} {cells slots : Nat} (X : Stand p l e R s m args below meth c T locs cells slots)
    (hf : R'.frames ≤ R.frames) (hl : R'.locals ≤ R.locals) (hc : cells + R'.cells ≤ R.cells) (hs : slots + R'.slots ≤ R.slots) : Stand p l e R' (T.setFrames (.invoking m args :: below)) m args below meth c T [] 0 0 := by
  obtain ⟨g₀, hg⟩ := Option.isSome_iff_exists.mp X.here.top
  obtain ⟨r, hr⟩ := State.topJava?_eq_some.mp hg
  obtain ⟨t, ht, -⟩ := State.frames_cons hr
  have hcur : T.cur < T.threads.size := State.cur_lt_of_frames hr
  have hF : (T.setFrames (.invoking m args :: below)).frames = .invoking m args :: below := State.frames_setFrames _ hcur
  have hmeth : ∀ mm : MethodId, (T.setFrames (.invoking m args :: below)).vm.method? mm = s.vm.method? mm := fun mm => X.warmed.alike.method? mm
  have hcode : ∀ mm : MethodId, (T.setFrames (.invoking m args :: below)).code? mm = s.code? mm := fun mm => by
    rw [State.code?_eq, State.code?_eq, hmeth]
  have hm' : (T.setFrames (.invoking m args :: below)).vm.method? m = some meth := by rw [hmeth]; exact X.method
  have hU : (T.setFrames (.invoking m args :: below)).localsInUse = s.localsInUse := by
    rw [State.localsInUse_invoking hF hm' X.code, State.localsInUse_invoking X.frames X.method X.code]
  have hroom : (T.setFrames (.invoking m args :: below)).hasRoom e.platform R' = true := by
    have h := X.room
    have h1 := X.heapSize
    have h2 := X.used
    have h3 := X.book
    unfold State.hasRoom at h ⊢
    rw [hU, hF]
    rw [X.frames] at h
    simp only [Bool.and_eq_true, decide_eq_true_eq] at h ⊢
    obtain ⟨⟨⟨⟨a1, a2, a3, a4, a5, a6⟩, a7⟩, a8⟩, a9⟩ := h
    rw [State.stackLimits_setFrames, State.stackBytes_setFrames, X.limits, X.bytes]
    refine ⟨⟨⟨⟨by omega, by omega, by omega, by omega, by omega, a6⟩, ?_⟩, ?_⟩, h3⟩
    · show T.heap.size + R'.cells ≤ _
      omega
    · show T.slotsUsed + R'.slots ≤ _
      omega
  have hhears : (T.setFrames (.invoking m args :: below)).hears m below = true := zx_hears hmeth hcode X.hears
  refine ⟨X.admits, X.cas, X.clock, hF, hroom, hhears, hm', X.code, X.here, X.tail, State.WarmedH.refl _, by rw [State.stackLimits_setFrames], by rw [State.stackBytes_setFrames], ?_⟩
  have hback : (T.setFrames (.invoking m args :: below)).setFrames T.frames = T := by
    rw [State.setFrames_setFrames]
    exact State.setFrames_self ht
  obtain ⟨t', ht', -⟩ := State.frames_cons hF
  have h := (State.sameButNew.refl (T.setFrames (.invoking m args :: below)) ht').setFrames T.frames (State.cur_lt_of_frames hF)
  rw [hback] at h
  exact h
theorem zs_Z.words {n d : String} {A0 : Nat → Prop} {U : State} (h : zs_Z n d A0 U) (a : Array Value) : (Cond.laysStatic Bundle.tN n d).before a U = true ∧ (Cond.isRef (.static Bundle.tN n d)).before a U = true := by
  obtain ⟨c, k, i, f, ad, cell, v, h1, h2, h3, h4, h5, h6, h7, h8, h9, h10, h11, h12⟩ := h
  refine ⟨?_, ?_⟩
  · simp [Cond.before, Cond.holds, Cond.value, h1, h2, h3, h4, h5, h6, h7, h8, h9]
  · have hn : U.fieldNamed? Bundle.tN n d true = some (c, k, f.slot) := by
      simp [State.fieldNamed?, h2, h3]
    have : (Term.static Bundle.tN n d).eval a U none [] U = some v := by
      simp [Term.eval, hn, h4, h5, h6, h10]
    rcases h11 with rfl | ⟨t, rfl⟩ <;> simp [Cond.before, Cond.holds, Cond.value, this]
def zk_up : List String := ["java/lang/RuntimeException", "java/lang/Exception"]
/-- the two words that only a heap can tell -/
def zk_hw (w : Cond) : Prop := (∃ n d, (n = "UNASSIGNED_STACK" ∧ d = Bundle.steD ∨ n = "SUPPRESSED_SENTINEL" ∧ d = Bundle.listD) ∧ (w = Cond.laysStatic Bundle.tN n d ∨ w = Cond.isRef (.static Bundle.tN n d)))
/-- what is asked of a row that makes an exception -/
def zk_gn (Θ : zk_T) (cc : ByteArray) (own : String) (pc k x1 x2 : Nat) : Prop := x1 < 3 ∧ Cond.classLink own k (Θ.2.2.2.2.2.2 x1) ∈ Θ.2.2.2.2.1 ∧ Cond.initialized (Θ.2.2.2.2.2.2 x1) ∈ Θ.2.2.2.2.1 ∧ (∀ w ∈ Bundle.ownAtoms own x2 (Θ.2.2.2.2.2.2 x1) zk_up, w ∈ Θ.2.2.2.2.1 ∨ zk_hw w) ∧ Bundle.fit (Θ.2.2.2.2.2.2 x1) = true ∧
  decode cc pc = .ok (.new k, 3) ∧ decode cc (pc + 3) = .ok (.dup, 1) ∧ (∃ (i : Nat) (tx : String), decode cc (pc + 4) = .ok (.ldc i, 2) ∧ Cond.stringRef own i tx ∈ Θ.2.2.2.2.1) ∧ decode cc (pc + 6) = .ok (.invokespecial x2, 3) ∧ decode cc (pc + 9) = .ok (.athrow, 1)
theorem zk_E.words {Θ : zk_T} {Γ : zk_G} {U : State} (h : zk_E Θ Γ U) {w : Cond} (hw : zk_hw w) (a : Array Value) : w.before a U = true := by
  obtain ⟨n, d, hn, hw⟩ := hw
  rcases hn with ⟨rfl, rfl⟩ | ⟨rfl, rfl⟩
  · rcases hw with rfl | rfl
    · exact (h.2.1.words a).1
    · exact (h.2.1.words a).2
  · rcases hw with rfl | rfl
    · exact (h.2.2.1.words a).1
    · exact (h.2.2.1.words a).2
section ZKX
variable {p : Program} {e : Env} {s : State} {m : MethodId} {args : Array Value} {below : List Frame} {meth : Method} {c : Code} {Θ : zk_T} {Γ : zk_G} {d mc ms nL : Nat} {cc : ByteArray} {own : String}
set_option maxHeartbeats 4000000 in
theorem zk_throw {post : Option za_V → za_M → Prop} {px : Nat → za_M → Prop} (hT : zk_gt Θ) (hx : p.tables.exec = Jvm.exec) (hb : c.code = cc) (hml : c.maxLocals = nL) (hown : s.vm.findClass own = some m.cls) (hI : zk_I Θ Γ s) (hlocks : meth.locks = false) (hnoex : ∀ x ∈ c.exceptionTable.toList, False)
    {pc k x1 x2 : Nat} {lc : Array Slot} {H : Heap} {locs : List Loc} {cells slots : Nat} {ν : za_M} (hG : zk_gn Θ cc own pc k x1 x2) (hd : 6 ≤ d) (hlc : lc.size = nL) (hH : zk_H Θ Γ ν H) (hS : va_S (zk_A Θ Γ s.heap.size) s.heap H locs) (hc : cells + 1 ≤ mc) (hs : slots + 6 ≤ ms) (hpx : px x1 ν) :
    W p Γ.1 e (zk_rm d mc ms) s m args below meth c H locs cells slots (zx_MQ below (zk_Qc Θ Γ s.heap.size post px) args s mc ms (zk_A Θ Γ s.heap.size)) (F0 m pc lc []) := by
  obtain ⟨g1, g2, g3, g4, g5, g6, g7, ⟨i, tx, g8, g9⟩, g10, g11⟩ := hG
  intro T hTH X
  have X' := zx_anew (R' := zk_rm d 1 6) X (Nat.le_refl _) (Nat.le_refl _) hc hs
  have hWs : s.WarmedH (T.setFrames (.invoking m args :: below)).vm := X.warmed
  have hI' : zk_I Θ Γ (T.setFrames (.invoking m args :: below)) := hI.warm hT hWs (fun a q1 q2 => by show T.heap[a]? = _; rw [hTH]; exact hS.2.1 a q1 q2)
  have hown' : (T.setFrames (.invoking m args :: below)).vm.findClass own = some m.cls := by show T.vm.findClass own = some m.cls; rw [X.warmed.alike.findClass]; exact hown
  have hwd : ∀ w ∈ Bundle.ownAtoms own x2 (Θ.2.2.2.2.2.2 x1) zk_up, w.before args (T.setFrames (.invoking m args :: below)) = true := fun w hw => (g4 w hw).elim (fun q => hI'.1 w q args) (fun q => hI'.2.2.2.2.words q args)
  have htr : e.platform.stackTraces = false := by rw [Example.NoTraceControls.admits_follows X.admits]; exact hI.2.2.2.2.1
  obtain ⟨vm₁, cX, kX, hfX, hkX, -, -, X₁, st1⟩ := X'.newCold hx (own := own) (C := Θ.2.2.2.2.2.2 x1) (index := k) (n := 6) hown' (hI'.1 _ g2 _) (hwd (.instantiable (Θ.2.2.2.2.2.2 x1) 6) (by simp [Bundle.ownAtoms])) (hI'.1 _ g3 _)
    (g := F0 m pc lc []) rfl (by rw [hb]; exact g6) (Nat.le_refl _) (Nat.le_refl _)
  generalize hT1 : (T.setVm vm₁).pushCell { cls := cX, slots := kX.instanceTypes.map defaultValue, vm := .none } = T1 at X₁ st1
  have hcellA : T1.heap[T.heap.size]? = some (freshCell cX kX) := by rw [← hT1]; exact State.heap_pushCell_size _ _
  have hconst := hI'.1 _ g9 args
  obtain ⟨-, -, -, sa, -, -, -, -, -, hev⟩ := Cond.stringRef_spec hown' hconst
  obtain ⟨U, hsteps, hrun, hend, hW, hsame, ce, hce, K⟩ := X₁.ctorThrowS hx htr (own := own) (cls := Θ.2.2.2.2.2.2 x1) (names := zk_up) (ic := x2) hown' g5 (by decide +kernel)
    hwd (fun y hy => by cases hy) hfX hkX hcellA (Nat.le_refl _) (msg := .ref sa) rfl
    (g := F0 m (pc + 6) lc [.ref sa, .ref T.heap.size, .ref T.heap.size]) rfl (by rw [hml]; exact hlc) rfl rfl (rest := []) rfl
    (by rw [hb]; exact g10) (by rw [hb]; exact g11) (fun x hx => (hnoex x hx).elim) (by show 2 + 3 < d; omega) (by show 2 * 0 + (1 + 0) + (13 * (2 + 1) + 42) ≤ 64 * d; omega) hlocks
  have hold : ∀ (a : Nat) (cell : Cell), T.heap[a]? = some cell → U.heap[a]? = some cell := fun a cell hcell => State.sameButNew.old_cell hsame hcell
  have hkeep : ∀ a : Nat, a < T.heap.size → U.heap[a]? = T.heap[a]? := fun a ha => by
    rw [Array.getElem?_eq_getElem ha]
    exact hold a _ (Array.getElem?_eq_getElem ha)
  refine ⟨U, ?_, .threw T.heap.size, hrun, hend, ⟨Or.inr ⟨T.heap.size, x1, ce, ν, rfl, hpx, ?_, hce, K.vm, ?_⟩, ?_, ?_⟩, State.WarmedH.trans X.warmed hW, locs, ?_, hS.2.2⟩
  · refine st1 _ ?_
    show Steps p.tables e below (T1.setTop (F0 m (pc + 3) lc [.ref T.heap.size])) _
    jvm_step X₁.here [X₁.here.top, hx, hb, g7, Value.category]
    exact X₁.ldcString hx (own := own) (text := tx) (index := i) (a := sa) hown' hconst hev (g := F0 m (pc + 4) lc [.ref T.heap.size, .ref T.heap.size]) rfl (by rw [hb]; exact g8) _ hsteps
  · refine va_P.kept hH (fun kk q hq => ?_)
    obtain ⟨cell, hcell⟩ : ∃ cell, H[q.1]? = some cell := va_at_cell (hH kk q hq)
    rw [hcell]
    rw [← hTH] at hcell
    exact hold _ _ hcell
  · have h9 : T.vm.findClass (Θ.2.2.2.2.2.2 x1) = some ce.cls := K.cls
    rw [X.warmed.alike.findClass] at h9
    exact h9
  · exact Nat.le_trans hS.1 (by rw [← hTH]; exact hsame.2.1)
  · intro q h1 h2
    rw [← hS.2.1 q h1 h2, ← hTH]
    exact hkeep q (by rw [hTH]; exact Nat.lt_of_lt_of_le h1 hS.1)
  · have h1 : T.sameButNew ({ U with vm := T.vm } : State) [] (0 + 1) (0 + 6) := by
      obtain ⟨e1, e2⟩ := hsame
      refine ⟨?_, e2⟩
      have e3 : ({ U with vm := T.vm } : State) = { (T.setFrames (.invoking m args :: below)).setFrames U.frames with heap := U.heap, slotsUsed := U.slotsUsed } := e1
      rw [State.setFrames_setFrames] at e3
      exact e3
    have h2 := (X.same.trans (h1.setVm s.vm)).mono (c' := mc) (n' := ms) (by omega) (by omega)
    rw [List.append_nil] at h2
    exact h2
/-- not caught here, counted up -/
theorem zx_outW {l : Launch} {R : Room} {locs : List Loc} {cells slots : Nat} {H : Heap} {Qc : Array Value → State → Outcome → State → Prop} {free : Addr → Prop} {lc : Array Slot} {pc : Nat} {rest : List Value} {q : Addr} (hc : cells ≤ mc) (hs : slots ≤ ms) (hout : ∀ x ∈ c.exceptionTable.toList, covers x pc = false) (hlocks : meth.locks = false)
    (hx : ∀ t : State, t.heap = H → s.vm.Alike t.vm → Qc args s (.threw q) t) (hfr : ∀ z ∈ locs, free z.base) : zx_WX p l e R s m args below meth c H locs cells slots (zx_MQ below Qc args s mc ms free) (F0 m pc lc rest) q := by
  intro T hT X
  obtain ⟨st1, hrun, hend, hW, hsm⟩ := X.leaveThrown q (g := F0 m pc lc rest) rfl rfl rfl hout hlocks
  exact ⟨_, st1, .threw q, hrun, hend, hx _ hT hW.alike, hW, locs, hsm.mono hc hs, hfr⟩
end ZKX
def zk_XX (mc ms : Nat) (px : Nat → za_M → Prop) : za_XX := fun x μ κ => κ.1 ≤ mc ∧ κ.2 ≤ ms ∧ px x μ
set_option maxHeartbeats 4000000 in
theorem zk_methX {Θ : zk_T} {Γ : zk_G} {M : zk_Me} {d mc ms : Nat} {as : List za_V} {μ : za_M} {post : Option za_V → za_M → Prop} {px : Nat → za_M → Prop} (hT : zk_gt Θ) (hMm : M ∈ Θ.2.2.2.2.2.1) (prog : List za_E) (hprog : ∀ E ∈ prog, za_gd M.2.2.2.1 M.2.2.1.cls Θ.2.2.2.2.1 Θ.2.2.1 E ∧ zk_gc Θ M.2.2.1.cls E) (hch : zk_ch prog) (hnew : ∀ E ∈ prog, ∀ k, E.2.1 = .new k → zk_gn Θ M.2.2.2.1 M.2.2.1.cls E.1 k E.2.2.2.1 E.2.2.2.2.1) (hargs : (zk_l0 as).length ≤ M.2.2.2.2.1) (hd : 6 ≤ d)
    (body : ∀ ZZ : Nat → za_K, (∀ (cuts : List Nat) (n pc : Nat) ls st μ κ, zk_go Θ.1 zk_X0 (zk_rt M.2.2.2.2.2) (zk_RR mc ms post) (zk_XX mc ms px) (zk_CC Θ Γ d mc ms) (fun _ x _ ν κ => zk_XX mc ms px x ν κ) prog cuts ZZ n pc ls st μ κ → ZZ pc ls st μ κ) → ZZ 0 (zk_ls as M.2.2.2.2.1) [] μ (0, 0)) :
    zk_Ct Θ Γ M d mc ms as μ post px := by
  have hgm := hT.2.2.1 M hMm
  intro sz
  refine zx_ofW (cc := M.2.2.2.1) (maxL := M.2.2.2.2.1) (ret := M.2.2.2.2.2) (ws' := []) hgm.2.2.2.1 rfl ?_
  intro p e s m args below meth c s₁ B hml hnoex hP
  obtain ⟨rfl, hsz, hH, hoks, hI⟩ := hP
  subst hsz
  have hx := B.exec
  have hb := B.bytes
  have hr := B.returns
  have hlocks := B.notSynchronized
  have hown : s.vm.findClass M.2.2.1.cls = some m.cls := findClass_of_methodNamed B.named
  have C0 : za_Cx p s m (as.map (za_cv Γ.2.1)).toArray c Θ.1 Θ.2.1 Γ.2.1 Γ.2.2.1 Γ.2.2.2.1 Θ.2.2.1 (zk_A Θ Γ s.heap.size) M.2.2.2.1 Γ.2.2.2.2 zk_X0 M.2.2.1.cls Θ.2.2.2.2.1 Θ.2.2.2.1 :=
    ⟨hx, hb, fun w hw => hI.1 w hw _, hown, hI.2.1, zk_D hI.2.2.1, hT.1, hI.2.2.2.1, hT.2.1, fun h => by cases h⟩
  rw [lg_entry_eq]
  have key := body (zk_Z p e (zk_rm d mc ms) s m (as.map (za_cv Γ.2.1)).toArray below meth c (zx_MQ below (zk_Qc Θ Γ s.heap.size post px) (as.map (za_cv Γ.2.1)).toArray s mc ms (zk_A Θ Γ s.heap.size)) Θ Γ M.2.2.2.2.1) ?_
  · exact key trivial (fun i v hv => zk_oks_mem hoks (zk_l0_mem Γ.2.1 as 0 i v (zk_ls_at hv)).2) _ _ [] (zk_entry hargs) hH va_S.rf
  · refine zk_go_sound hch ?_
    intro E hE K J ls st ν κ hK hJ h
    obtain ⟨hgd, hgc⟩ := hprog E hE
    refine ze_step C0 hgd hK hJ ?_ ?_ ?_ ?_ ?_ ?_ ?_ h
    · rintro x ν κ hret ⟨h1, h2, hp⟩ hdg g1 g2 lc H locs g3 g4 g5
      refine zx_ret (W.widen h1 h2 ?_)
      rcases hret with h0 | ⟨h0, h01⟩
      · have h9 : M.2.2.2.2.2 = some .int := by
          revert h0
          unfold zk_rt
          split <;> simp_all
        exact W.iret (v := x) hx hb (hr.trans h9) (fun t ht hW => ⟨Or.inl ⟨some (za_i x), ν, rfl, trivial, hp, by rw [ht]; exact g4⟩, g5.F ht⟩) g5.2.2 hdg
      · have h9 : M.2.2.2.2.2 = some .boolean := by
          revert h0
          unfold zk_rt
          split <;> simp_all
        exact W.zret (v := x) (ty := .boolean) hx hb (hr.trans h9) (za_narF h01).1 (fun t ht hW => ⟨Or.inl ⟨some (za_i x), ν, rfl, trivial, hp, by rw [ht]; exact g4⟩, g5.F ht⟩) g5.2.2 hdg
    · rintro x ν κ h0 ⟨h1, h2, hp⟩ hdg g1 g2 lc H locs g3 g4 g5
      refine zx_ret (W.widen h1 h2 ?_)
      have h9 : M.2.2.2.2.2 = some .long := by
        revert h0
        unfold zk_rt
        split <;> simp_all
      exact W.lret (v := x) hx hb (hr.trans h9) (fun t ht hW => ⟨Or.inl ⟨some (za_l x), ν, rfl, trivial, hp, by rw [ht]; exact g4⟩, g5.F ht⟩) g5.2.2 hdg
    · rintro r ν κ h0 ⟨h1, h2, hp⟩ hdg g1 g2 lc H locs g3 g4 g5
      refine zx_ret (W.widen h1 h2 ?_)
      obtain ⟨a, ha⟩ := za_cvA Γ.2.1 r
      have h9 : ∃ rt, M.2.2.2.2.2 = some rt ∧ ((∃ n, rt = .object n) ∨ ∃ t, rt = .array t) := by
        revert h0
        unfold zk_rt
        split <;> simp_all
      obtain ⟨rt, h9, h10⟩ := h9
      exact W.aret (v := za_cv Γ.2.1 (.inr (.inr r))) (rt := rt) hx hb (hr.trans h9) h10 (Or.inr ⟨a, ha⟩) (fun t ht hW => ⟨Or.inl ⟨some (.inr (.inr r)), ν, rfl, g1.1, hp, by rw [ht]; exact g4⟩, g5.F ht⟩) g5.2.2 hdg
    · rintro ν κ h0 ⟨h1, h2, hp⟩ hdg g1 g2 lc H locs g3 g4 g5
      refine zx_ret (W.widen h1 h2 ?_)
      have h9 : M.2.2.2.2.2 = none := by
        revert h0
        unfold zk_rt
        split <;> simp_all
      exact W.vret hx hb (hr.trans h9) (fun t ht hW => ⟨Or.inl ⟨none, ν, rfl, trivial, hp, by rw [ht]; exact g4⟩, g5.F ht⟩) g5.2.2 hdg
    · intro k as' t hst hlen hwt hin h999 hCC
      have hdg := hgd.1
      have hnx := hgd.2.1
      have h3 : za_ln E.2.1 E.2.2.2.2.1 = 3 := by rcases hin with h | h | h <;> rw [h] <;> rfl
      rw [h3] at hdg hnx
      have hsp : ¬ E.2.1 = .invokespecial k := by
        intro hq
        unfold zk_gc at hgc
        rw [hq] at hgc
        exact hgc
      refine zk_call (k := k) hT C0 hI hml hgc hdg hnx hst hlen hwt ?_ (fun r μ1 κ1 hr => ?_) (fun x μ1 κ1 q ce lc H1 locs1 hf hlo hH1 hS1 hq hv hcl => zx_outW hf.1 hf.2.1 (fun y hy => (hnoex y hy).elim) hlocks (fun t ht hW => ⟨Or.inr ⟨q, x, ce, μ1, rfl, hf.2.2, by rw [ht]; exact hH1, by rw [ht]; exact hq, hv, hcl⟩, hS1.F ht⟩) hS1.2.2) hCC
      · rcases hin with h | h | h
        · exact Or.inl h
        · exact absurd h hsp
        · exact Or.inr ⟨h, h999 h⟩
      · cases r with
        | none => exact hK _ _ _ _ hr
        | some v => exact hK _ _ _ _ hr
    · intro k hi h999 hcp
      unfold zk_gc at hgc
      rw [hi] at hgc
      have hdg := hgd.1
      have hnx := hgd.2.1
      rw [hi] at hdg hnx
      rcases hgc with ⟨-, g1, g2, g3, g4⟩ | ⟨M', g0, -⟩
      · rw [hnx] at hK
        refine zf_cp hx hb hml hI.2.1 (zk_D hI.2.2.1) hI.2.2.2.1 hown (hI.1 _ g1 _) (hI.1 _ g2 _) (hI.1 _ g3 _) (hI.1 _ g4 _) (by show 1 ≤ d; omega) ?_ hdg (za_cp_mono (fun v t h => hK _ _ _ _ h) hcp)
        show 8 + (nativeFrameWords "java/lang/System" "arraycopy" 5 + 11) ≤ 64 * d
        have : nativeFrameWords "java/lang/System" "arraycopy" 5 ≤ 45 := by decide
        omega
      · exact absurd h999 g0
    · intro k hi hf g1 g2 lc H locs g3 g4 g5
      have hst := hf.1
      subst hst
      exact zk_throw hT hx hb hml hown hI hlocks hnoex (hnew E hE k hi) hd g3.2.1 g4 g5 hf.2.1 hf.2.2.1 hf.2.2.2
