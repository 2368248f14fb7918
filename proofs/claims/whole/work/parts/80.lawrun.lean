/-! THE LAW'S RUN over the abstract machine -/
def lw_P (b : Addr) (xs : List Int32) (args : Array Value) (s : State) : Prop := args = #[.ref b] ∧ s.IntsAt b xs ∧ xs.length ≤ 2560 ∧ (Jvm.Cond.and given_1 narrow_1).before args s = true
def lw_Q (_ : Array Value) (s : State) (o : Outcome) (t : State) : Prop := o = .returned (some (.int 1)) ∧ Framed s o t [] 601024 7293034
def lw_Z (below : List Frame) (a : Array Value) (s : State) : State → Prop := fun t => ∃ o, t.status = .running ∧ Ended t below o ∧ lw_Q a s o t
theorem lw_ret {R : Room} {p : Program} {l : Launch} {e : Env} {s : State} {m : MethodId} {below : List Frame} {meth : Method} {c : Code} {b : Nat} (hx : p.tables.exec = Jvm.exec) (hb : c.code = code) (hr : meth.sig.returnType = ret) (hlocks : meth.locks = false) {pc : Nat} {H : Heap} {ls : Array Slot} (hdg : decode code pc = .ok (.ireturn, 1)) : W p l e R s m #[Value.ref b] below meth c H [] 601024 7293034 (lw_Z below #[Value.ref b] s) (F0 m pc ls [.int 1]) := by
  intro T hT X
  obtain ⟨fs, hret, hrun, hended, hW, hframe⟩ := X.leave (v := some (.int 1)) (hlocks := hlocks) (fun h => by rw [hr] at h; cases h)
  have hmeth' : T.vm.method? m = some meth := X.method'
  refine ⟨T.setFrames fs, ?_, .returned (some (.int 1)), hrun, hended, rfl, ⟨_, rfl⟩, hW, hframe⟩
  jvm_step X.here [X.here.top, hx, hb, hdg, hmeth', hr, ret, narrow_b1]
  (try refine ⟨rfl, ?_⟩); (try refine ⟨rfl, ?_⟩)
  first | (intro acts; rw [hret _ acts rfl rfl rfl]) | rw [hret _ _ rfl rfl rfl]
  exact Steps.refl _
/-- a walk in less room -/
theorem zl_less {R R' : Room} {p : Program} {l : Launch} {e : Env} {s : State} {m : MethodId} {args : Array Value} {below : List Frame} {meth : Method} {c : Code} {H : Heap} {locs : List Loc} {cells slots : Nat} {Q : State → Prop} {g : JFrame} (h1 : R'.frames ≤ R.frames) (h2 : R'.cells ≤ R.cells) (h3 : R'.slots ≤ R.slots) (h4 : R'.locals ≤ R.locals) (k : W p l e R' s m args below meth c H locs cells slots Q g) : W p l e R s m args below meth c H locs cells slots Q g := by
  intro T hT X
  refine k T hT ⟨X.admits, X.cas, X.clock, X.frames, ?_, X.hears, X.method, X.code, X.here, X.tail, X.warmed, X.limits, X.bytes, X.same⟩
  have h := X.room
  unfold State.hasRoom at h ⊢
  simp only [Bool.and_eq_true, decide_eq_true_eq] at h ⊢
  obtain ⟨⟨⟨⟨a1, a2, a3, a4, a5, a6⟩, a7⟩, a8⟩, a9⟩ := h
  exact ⟨⟨⟨⟨by omega, by omega, by omega, by omega, by omega, a6⟩, by omega⟩, by omega⟩, a9⟩
def zl_wr : List (zk_Me × List (Nat × Nat × Nat × Nat)) := [(zm_L_symbol, zh_L_symbol), (zm_L_production, zh_L_production), (zm_L_depend, zh_L_depend), (zm_L_graphs, zh_L_graphs), (zm_L_circular, zh_L_circular), (zm_L_relation, zh_L_relation), (zm_L_pass, zh_L_pass)]
def zl_CC (Γ : zk_G) : za_CC := fun y as μ κ k x => match Nat.ble 200 y with
  | true => (match za_n zl_wr (y - 200) with
    | some q => ∃ (d' mc' ms' : Nat) (post : Option za_V → za_M → Prop), d' < 1312 ∧ κ.1 + mc' ≤ 601024 ∧ κ.2 + ms' ≤ 7293034 ∧ zk_CtC zt Γ q.1 q.2 d' mc' ms' as μ post ∧ ∀ r μ1, post r μ1 → k r μ1 (κ.1 + mc', κ.2 + ms')
    | none => False)
  | false => zk_CC zt Γ 1312 601024 7293034 y as μ κ k x
def zl_RR : za_RR := fun r _ κ => r = some (za_i 1) ∧ κ.1 ≤ 601024 ∧ κ.2 ≤ 7293034
/-- what is asked of a call of the law's own -/
def zl_gs (k y n : Nat) (q : zk_Me × List (Nat × Nat × Nat × Nat)) : Prop := za_n zl_wr (y - 200) = some q ∧ Cond.methodLink "AttributeKindsLaw" k q.1.2.2.1 ∈ zt_WS ∧ Cond.static q.1.2.2.1 ∈ zt_WS ∧ Cond.codeWith q.1.2.2.1 q.1.2.2.2.1 q.1.2.2.2.2.1 q.1.2.2.2.2.2 q.2 ∈ zt_WS ∧ q.1.2.2.1.cls = "AttributeKindsLaw" ∧ q.1.2.2.2.2.1 ≤ 40 ∧ (parseMethodDescriptor q.1.2.2.1.desc).map (fun z => z.parameters.length) = some n
def zl_st (e : za_E) : Bool := match e.2.1 with
  | .invokestatic _ => true
  | _ => false
theorem zl_sts : zp_law.filter zl_st = [(121, .invokestatic 50, 124, 200, 4, 0), (201, .invokestatic 60, 204, 201, 6, 0), (287, .invokestatic 64, 290, 202, 5, 0), (362, .invokestatic 68, 365, 203, 3, 0), (412, .invokestatic 72, 415, 204, 2, 0), (515, .invokestatic 84, 518, 205, 5, 0), (611, .invokestatic 88, 614, 206, 5, 0)] := by decide +kernel
theorem zl_gsall : ∀ E ∈ zp_law, ∀ k, E.2.1 = .invokestatic k → 200 ≤ E.2.2.2.1 ∧ ∃ q, zl_gs k E.2.2.2.1 E.2.2.2.2.1 q := by
  intro E hE k hk
  have h : E ∈ zp_law.filter zl_st := List.mem_filter.mpr ⟨hE, by unfold zl_st; rw [hk]⟩
  rw [zl_sts] at h
  revert k
  revert E
  refine fun E _ h => ?_
  revert E
  refine fun E => ?_
  intro _ h
  simp only [List.mem_cons, List.not_mem_nil, or_false] at h
  rcases h with rfl | rfl | rfl | rfl | rfl | rfl | rfl
  · intro k hk; cases hk; exact ⟨by decide, _, rfl, zw_ln_L_symbol, zw_st_L_symbol, zw_cw_symbol, rfl, by decide, by decide +kernel⟩
  · intro k hk; cases hk; exact ⟨by decide, _, rfl, zw_ln_L_production, zw_st_L_production, zw_cw_production, rfl, by decide, by decide +kernel⟩
  · intro k hk; cases hk; exact ⟨by decide, _, rfl, zw_ln_L_depend, zw_st_L_depend, zw_cw_depend, rfl, by decide, by decide +kernel⟩
  · intro k hk; cases hk; exact ⟨by decide, _, rfl, zw_ln_L_graphs, zw_st_L_graphs, zw_cw_graphs, rfl, by decide, by decide +kernel⟩
  · intro k hk; cases hk; exact ⟨by decide, _, rfl, zw_ln_L_circular, zw_st_L_circular, zw_cw_circular, rfl, by decide, by decide +kernel⟩
  · intro k hk; cases hk; exact ⟨by decide, _, rfl, zw_ln_L_relation, zw_st_L_relation, zw_cw_relation, rfl, by decide, by decide +kernel⟩
  · intro k hk; cases hk; exact ⟨by decide, _, rfl, zw_ln_L_pass, zw_st_L_pass, zw_cw_pass, rfl, by decide, by decide +kernel⟩
theorem zl_gd : ∀ E ∈ zp_law, za_gd code "AttributeKindsLaw" zt_WS zt_cl E ∧ ((∀ k, ¬ E.2.1 = .invokestatic k) → zk_gc zt "AttributeKindsLaw" E) := by
  intro E hE
  have h1 := List.all_eq_true.mp zg_law E hE
  unfold zh_gdw at h1
  simp only [Bool.and_eq_true, decide_eq_true_eq] at h1
  obtain ⟨⟨h2, h3⟩, h4⟩ := h1
  obtain ⟨pc, ins, nx, x1, x2, v⟩ := E
  cases ins
  case tableswitch d lo hi offs =>
    have h4 : (decide ((pc : Int) + d = (x1 : Int)) && decide (hi = lo + offs.size - 1) && decide (-2147483648 ≤ lo) && decide (hi ≤ 2147483647) && (offs.toList.all fun o => decide (0 ≤ (pc : Int) + o))) = true := h4
    simp only [Bool.and_eq_true, decide_eq_true_eq] at h4
    exact ⟨⟨h2, Nat.eq_of_beq_eq_true h3, h4.1.1.1.1, h4.1.1.1.2, h4.1.1.2, h4.1.2, h4.2⟩, fun _ => trivial⟩
  case invokestatic k => exact ⟨⟨h2, Nat.eq_of_beq_eq_true h3, trivial⟩, fun q => absurd rfl (q k)⟩
  all_goals (refine ⟨⟨h2, Nat.eq_of_beq_eq_true h3, (zh_gx_ok zl_okL (?_ : zh_gx zl_L _ = true)).1⟩, fun _ => (zh_gx_ok zl_okL (?_ : zh_gx zl_L _ = true)).2⟩ <;> exact h4)
