/-! one instruction is sound -/
def za_ln (ins : Instr) (x2 : Nat) : Nat := match ins with
  | .bipush _ => 2
  | .ldc _ => 2
  | .iload _ => 2
  | .lload _ => 2
  | .aload _ => 2
  | .istore _ => 2
  | .lstore _ => 2
  | .astore _ => 2
  | .sipush _ => 3
  | .ldc2_w _ => 3
  | .iinc _ _ => 3
  | .ifCond _ _ => 3
  | .if_icmp _ _ => 3
  | .goto _ => 3
  | .getfield _ => 3
  | .putfield _ => 3
  | .invokevirtual _ => 3
  | .invokespecial _ => 3
  | .invokestatic _ => 3
  | .new _ => 3
  | .tableswitch _ _ _ _ => x2
  | _ => 1
/-- what is asked of a row of the program, beside its decoding -/
def za_gx (own : String) (Ts : List Cond) (cl : List vw_C) (e : za_E) : Prop := match e.2.1 with
  | .iconst n => Int32.ofInt n = e.2.2.2.2.2
  | .bipush n => (Int8.ofInt n).toInt32 = e.2.2.2.2.2
  | .sipush n => (Int16.ofInt n).toInt32 = e.2.2.2.2.2
  | .ldc k => Jvm.Cond.constant own k e.2.2.2.2.2 ∈ Ts
  | .ldc2_w k => Jvm.Cond.constantLong own k e.2.2.2.2.2.toInt64 ∈ Ts
  | .iinc _ n => Int32.ofInt n = e.2.2.2.2.2
  | .ifCond _ off => (e.1 : Int) + off = (e.2.2.2.1 : Int)
  | .if_icmp _ off => (e.1 : Int) + off = (e.2.2.2.1 : Int)
  | .goto off => (e.1 : Int) + off = (e.2.2.2.1 : Int)
  | .getfield k => ∃ q : vw_C, cl[e.2.2.2.1]? = some q ∧ e.2.2.2.2.1 < q.2.2 ∧ Jvm.Cond.fieldLink own k (q.2.1 e.2.2.2.2.1).1 (q.2.1 e.2.2.2.2.1).2.1 (q.2.1 e.2.2.2.2.1).2.2.1 ∈ Ts
  | .putfield k => ∃ q : vw_C, cl[e.2.2.2.1]? = some q ∧ e.2.2.2.2.1 < q.2.2 ∧ Jvm.Cond.fieldLink own k (q.2.1 e.2.2.2.2.1).1 (q.2.1 e.2.2.2.2.1).2.1 (q.2.1 e.2.2.2.2.1).2.2.1 ∈ Ts ∧ (q.2.1 e.2.2.2.2.1).2.2.2 = false
  | .tableswitch d lo hi offs => (e.1 : Int) + d = (e.2.2.2.1 : Int) ∧ hi = lo + offs.size - 1 ∧ -2147483648 ≤ lo ∧ hi ≤ 2147483647 ∧ (offs.toList.all fun o => decide (0 ≤ (e.1 : Int) + o)) = true
  | _ => True
def za_gd (cc : ByteArray) (own : String) (Ts : List Cond) (cl : List vw_C) (e : za_E) : Prop := decode cc e.1 = .ok (e.2.1, za_ln e.2.1 e.2.2.2.2.1) ∧ e.2.2.1 = e.1 + za_ln e.2.1 e.2.2.2.2.1 ∧ za_gx own Ts cl e
/-- what is asked of the classes -/
def za_cg (Ts : List Cond) (cl : List vw_C) (ft : Nat → Nat → FieldType) (Λ : List za_S) : Prop := (∀ (ci : Nat) (q : vw_C), cl[ci]? = some q → (∀ w ∈ u_ws q.1 q.2.1 q.2.2, w ∈ Ts) ∧ (∀ k, k < q.2.2 → parseFieldDescriptor (q.2.1 k).2.2.1 = some (ft ci k)) ∧ (∀ a, a < q.2.2 → ∀ b, b < q.2.2 → a ≠ b → (q.2.1 a).2.1 ≠ (q.2.1 b).2.1)) ∧
  ∀ (b ci f : Nat) (fs : List (Nat × Nat × Nat)), za_n Λ b = some (4, ci, fs) → (∀ z, za_n fs f = some (0, 0, z) → ft ci f = .int) ∧ (∀ z, za_n fs f = some (0, 1, z) → ft ci f = .boolean)
/-- where a method stands -/
def za_Cx (p : Program) (s : State) (m : MethodId) (args : Array Value) (c : Code) (Λ : List za_S) (cn : Nat → Nat) (ad : Nat → Nat → Nat) (ca : Nat → ClassId) (D : va_G) (cl : List vw_C) (A : Nat → Prop) (cc : ByteArray) (tys : List (ClassId × FieldType)) (X : za_X) (own : String) (Ts : List Cond) (ft : Nat → Nat → FieldType) : Prop :=
  p.tables.exec = Jvm.exec ∧ c.code = cc ∧ (∀ w ∈ Ts, w.before args s = true) ∧ s.vm.findClass own = some m.cls ∧ va_K D cl tys s ∧ (∀ μ : za_M, va_D A (za_ws Λ cn ad ca μ)) ∧ za_wf Λ cn ∧ za_ty Λ ca tys ∧ za_cg Ts cl ft Λ ∧ (X.1 = true → va_X X.2.1 X.2.2.1 X.2.2.2 s s.heap ∧ X.2.1 < s.heap.size ∧ ¬ A X.2.1)
section ZE
variable {p : Program} {l : Launch} {e : Env} {R : Room} {s : State} {m : MethodId} {args : Array Value} {below : List Frame} {meth : Method} {c : Code} {Q : State → Prop}
variable {Λ : List za_S} {cn : Nat → Nat} {ad : Nat → Nat → Nat} {ca : Nat → ClassId} {D : va_G} {cl : List vw_C} {A : Nat → Prop} {nL : Nat} {cc : ByteArray} {tys : List (ClassId × FieldType)} {X : za_X} {own : String} {Ts : List Cond} {ft : Nat → Nat → FieldType}
theorem ze_sw {x : Int32} {lo : Int} {offs : List Nat} {J : Nat → Prop} {d : Prop} (h : za_sw x lo offs J d) : ((∀ k : Nat, k < offs.length → ¬ x = Int32.ofInt (lo + k)) ∧ d) ∨ ∃ (k t : Nat), offs[k]? = some t ∧ x = Int32.ofInt (lo + k) ∧ J t := by
  induction offs generalizing lo with
  | nil => exact Or.inl ⟨fun k hk => by simp at hk, h⟩
  | cons t r ih =>
    by_cases hx : x = Int32.ofInt lo
    · exact Or.inr ⟨0, t, rfl, by simpa using hx, h.1 hx⟩
    · rcases ih (h.2 hx) with ⟨h1, h2⟩ | ⟨k, t', h1, h2, h3⟩
      · left
        refine ⟨fun k hk => ?_, h2⟩
        cases k with
        | zero => simpa using hx
        | succ k =>
          have := h1 k (by simpa using hk)
          rw [show lo + ((k + 1 : Nat) : Int) = lo + 1 + (k : Int) by omega]
          exact this
      · right
        refine ⟨k + 1, t', by simpa using h1, ?_, h3⟩
        rw [show lo + ((k + 1 : Nat) : Int) = lo + 1 + (k : Int) by omega]
        exact h2
set_option maxHeartbeats 8000000 in
set_option maxRecDepth 100000 in
theorem ze_step {ret : Nat} {RR : za_RR} {XX : za_XX} {CC : za_CC} {HX : Nat → za_C → za_M → Nat × Nat → Prop} {K : za_K} {J : Nat → za_K} {E : za_E} {ls : za_C} {st : List za_V} {μ : za_M} {κ : Nat × Nat}
    (C0 : za_Cx p s m args c Λ cn ad ca D cl A cc tys X own Ts ft) (hG : za_gd cc own Ts cl E)
    (hK : ∀ ls st μ κ, K ls st μ κ → za_Z p l e R s m args below meth c Λ cn ad ca D cl A nL Q E.2.2.1 ls st μ κ) (hJ : ∀ t ls st μ κ, J t ls st μ κ → za_Z p l e R s m args below meth c Λ cn ad ca D cl A nL Q t ls st μ κ)
    (hI : ∀ x μ κ, (ret = 1 ∨ ret = 2 ∧ (x = 0 ∨ x = 1)) → RR (some (za_i x)) μ κ → decode cc E.1 = .ok (.ireturn, 1) → za_Z p l e R s m args below meth c Λ cn ad ca D cl A nL Q E.1 ls [za_i x] μ κ)
    (hL : ∀ x μ κ, ret = 3 → RR (some (za_l x)) μ κ → decode cc E.1 = .ok (.lreturn, 1) → za_Z p l e R s m args below meth c Λ cn ad ca D cl A nL Q E.1 ls [za_l x] μ κ)
    (hA : ∀ r μ κ, ret = 4 → RR (some (.inr (.inr r))) μ κ → decode cc E.1 = .ok (.areturn, 1) → za_Z p l e R s m args below meth c Λ cn ad ca D cl A nL Q E.1 ls [.inr (.inr r)] μ κ)
    (hV : ∀ μ κ, ret = 0 → RR none μ κ → decode cc E.1 = .ok (.return_, 1) → za_Z p l e R s m args below meth c Λ cn ad ca D cl A nL Q E.1 ls [] μ κ)
    (hC : ∀ (k : Nat) (as t : List za_V), st = as.reverse ++ t → as.length = E.2.2.2.2.1 → za_wt t ≤ 8 → (E.2.1 = .invokevirtual k ∨ E.2.1 = .invokespecial k ∨ E.2.1 = .invokestatic k) → (E.2.1 = .invokestatic k → ¬ E.2.2.2.1 = 999) → CC E.2.2.2.1 as μ κ (fun r μ1 κ1 => za_back r t (fun t1 => K ls t1 μ1 κ1)) (fun x μ1 κ1 => HX x ls μ1 κ1) → za_Z p l e R s m args below meth c Λ cn ad ca D cl A nL Q E.1 ls st μ κ)
    (hAc : ∀ (k : Nat), E.2.1 = .invokestatic k → E.2.2.2.1 = 999 → za_cp Λ μ st (fun μ1 t => K ls t μ1 κ) → za_Z p l e R s m args below meth c Λ cn ad ca D cl A nL Q E.1 ls st μ κ)
    (hN : ∀ (k : Nat), E.2.1 = .new k → st = [] ∧ XX E.2.2.2.1 μ (κ.1 + 1, κ.2 + 6) → za_Z p l e R s m args below meth c Λ cn ad ca D cl A nL Q E.1 ls st μ κ)
    (h : za_stp Λ X ret RR XX CC HX K J E ls st μ κ) : za_Z p l e R s m args below meth c Λ cn ad ca D cl A nL Q E.1 ls st μ κ := by
  obtain ⟨hx, hb, hts, hown, hKw, hD, hwf, hty, ⟨hcg, hlf⟩, hX⟩ := C0
  obtain ⟨pc, ins, nx, x1, x2, v⟩ := E
  obtain ⟨hdg, hnx, hgx⟩ := hG
  dsimp only at hdg hnx hgx hK hI hL hA hV hC hAc hN ⊢
  cases ins
  case iconst n =>
    subst hnx
    exact zb_st (hK _ _ _ _ h) (fun lc H locs k => lv_iconst hx hb hdg hgx k) (fun h => ⟨trivial, h⟩)
  case bipush n =>
    subst hnx
    exact zb_st (hK _ _ _ _ h) (fun lc H locs k => lv_bipush hx hb hdg hgx k) (fun h => ⟨trivial, h⟩)
  case sipush n =>
    subst hnx
    exact zb_st (hK _ _ _ _ h) (fun lc H locs k => lv_sipush hx hb hdg hgx k) (fun h => ⟨trivial, h⟩)
  case ldc n =>
    subst hnx
    exact zb_st (hK _ _ _ _ h) (fun lc H locs k => lv_ldc hx hb hown (hts _ hgx) hdg k) (fun h => ⟨trivial, h⟩)
  case ldc2_w n =>
    subst hnx
    exact zb_st (hK _ _ _ _ h) (fun lc H locs k => lv_ldc2 hx hb hown (hts _ hgx) hdg k) (fun h => ⟨trivial, h⟩)
  case lconst n =>
    subst hnx
    exact zb_st (hK _ _ _ _ h) (fun lc H locs k => lv_lconst hx hb hdg rfl k) (fun h => ⟨trivial, h⟩)
  case iload i =>
    subst hnx
    obtain ⟨x, h1, h⟩ := za_ldI_spec h
    exact zb_ld h1 (fun lc H locs hl k => lv_iload hx hb hdg hl k) (hK _ _ _ _ h)
  case iload_n i =>
    subst hnx
    obtain ⟨x, h1, h⟩ := za_ldI_spec h
    exact zb_ld h1 (fun lc H locs hl k => lv_iload_n hx hb hdg rfl hl k) (hK _ _ _ _ h)
  case lload i =>
    subst hnx
    obtain ⟨x, h1, h⟩ := za_ldL_spec h
    exact zb_ld h1 (fun lc H locs hl k => lv_lload hx hb hdg hl k) (hK _ _ _ _ h)
  case lload_n i =>
    subst hnx
    obtain ⟨x, h1, h⟩ := za_ldL_spec h
    exact zb_ld h1 (fun lc H locs hl k => lv_lload_n hx hb hdg rfl hl k) (hK _ _ _ _ h)
  case aload i =>
    subst hnx
    change za_ldA ls i (fun v => K ls (v :: st) μ κ) at h
    obtain ⟨x, h1, h⟩ := za_ldA_spec h
    obtain ⟨a, ha⟩ := za_cvA ad x
    exact zb_ld h1 (fun lc H locs hl k => by rw [ha] at hl k; exact lv_aload hx hb hdg hl k) (hK _ _ _ _ h)
  case aload_n i =>
    subst hnx
    change za_ldA ls i (fun v => K ls (v :: st) μ κ) at h
    obtain ⟨x, h1, h⟩ := za_ldA_spec h
    obtain ⟨a, ha⟩ := za_cvA ad x
    exact zb_ld h1 (fun lc H locs hl k => by rw [ha] at hl k; exact lv_aload_n hx hb hdg rfl hl k) (hK _ _ _ _ h)
  case istore i =>
    subst hnx
    obtain ⟨x, t, rfl, h⟩ := za_1_spec h
    exact zb_s1 (v := za_i x) (st' := t) trivial (fun h => h.2) (fun lc H locs lv h1 h2 k => lv_istore hx hb hdg h1 h2 rfl k) (za_st1_mono (fun l1 h => hK _ _ _ _ h) h)
  case istore_n i =>
    subst hnx
    obtain ⟨x, t, rfl, h⟩ := za_1_spec h
    exact zb_s1 (v := za_i x) (st' := t) trivial (fun h => h.2) (fun lc H locs lv h1 h2 k => lv_istore_n hx hb hdg rfl h1 h2 rfl k) (za_st1_mono (fun l1 h => hK _ _ _ _ h) h)
  case lstore i =>
    subst hnx
    obtain ⟨x, t, rfl, h⟩ := za_L1_spec h
    exact zb_s2 (v := za_l x) (st' := t) trivial (fun h => h.2) (fun lc H locs lv h1 h2 k => lv_lstore hx hb hdg h1 h2 rfl k) (za_st2_mono (fun l1 h => hK _ _ _ _ h) h)
  case lstore_n i =>
    subst hnx
    obtain ⟨x, t, rfl, h⟩ := za_L1_spec h
    exact zb_s2 (v := za_l x) (st' := t) trivial (fun h => h.2) (fun lc H locs lv h1 h2 k => lv_lstore_n hx hb hdg rfl h1 h2 rfl k) (za_st2_mono (fun l1 h => hK _ _ _ _ h) h)
  case astore i =>
    subst hnx
    change za_A1 st (fun v t => za_st1 ls i v (fun l1 => K l1 t μ κ)) at h
    obtain ⟨r, t, rfl, h⟩ := za_A1_spec h
    obtain ⟨a, ha⟩ := za_cvA ad r
    intro h1 h2
    exact zb_s1 (v := .inr (.inr r)) (st' := t) h1.1 (fun h => h.2) (fun lc H locs lv h1 h2 k => by rw [ha] at k; rw [List.map_cons, ha]; exact lv_astore hx hb hdg h1 h2 rfl k) (za_st1_mono (fun l1 h => hK _ _ _ _ h) h) h1 h2
  case astore_n i =>
    subst hnx
    change za_A1 st (fun v t => za_st1 ls i v (fun l1 => K l1 t μ κ)) at h
    obtain ⟨r, t, rfl, h⟩ := za_A1_spec h
    obtain ⟨a, ha⟩ := za_cvA ad r
    intro h1 h2
    exact zb_s1 (v := .inr (.inr r)) (st' := t) h1.1 (fun h => h.2) (fun lc H locs lv h1 h2 k => by rw [ha] at k; rw [List.map_cons, ha]; exact lv_astore_n hx hb hdg rfl h1 h2 rfl k) (za_st1_mono (fun l1 h => hK _ _ _ _ h) h) h1 h2
  case iinc i n =>
    subst hnx
    obtain ⟨x, h1, h⟩ := za_ldI_spec h
    exact zb_inc hx hb hdg hgx h1 (za_st1_mono (fun l1 h => hK _ _ _ _ h) h)
  case iadd =>
    subst hnx
    obtain ⟨x, y, t, rfl, h⟩ := za_2_spec h
    exact zb_st (hK _ _ _ _ h) (fun lc H locs k => lv_iadd hx hb hdg k) (fun h => ⟨trivial, h.2.2⟩)
  case isub =>
    subst hnx
    obtain ⟨x, y, t, rfl, h⟩ := za_2_spec h
    exact zb_st (hK _ _ _ _ h) (fun lc H locs k => lv_isub hx hb hdg k) (fun h => ⟨trivial, h.2.2⟩)
  case imul =>
    subst hnx
    obtain ⟨x, y, t, rfl, h⟩ := za_2_spec h
    exact zb_st (hK _ _ _ _ h) (fun lc H locs k => lv_imul hx hb hdg k) (fun h => ⟨trivial, h.2.2⟩)
  case iand =>
    subst hnx
    obtain ⟨x, y, t, rfl, h⟩ := za_2_spec h
    exact zb_st (hK _ _ _ _ h) (fun lc H locs k => lv_iand hx hb hdg k) (fun h => ⟨trivial, h.2.2⟩)
  case ior =>
    subst hnx
    obtain ⟨x, y, t, rfl, h⟩ := za_2_spec h
    exact zb_st (hK _ _ _ _ h) (fun lc H locs k => lv_ior hx hb hdg k) (fun h => ⟨trivial, h.2.2⟩)
  case ixor =>
    subst hnx
    obtain ⟨x, y, t, rfl, h⟩ := za_2_spec h
    exact zb_st (hK _ _ _ _ h) (fun lc H locs k => lv_ixor hx hb hdg k) (fun h => ⟨trivial, h.2.2⟩)
  case ishl =>
    subst hnx
    obtain ⟨x, y, t, rfl, h⟩ := za_2_spec h
    exact zb_st (hK _ _ _ _ h) (fun lc H locs k => lv_ishl hx hb hdg k) (fun h => ⟨trivial, h.2.2⟩)
  case ishr =>
    subst hnx
    obtain ⟨x, y, t, rfl, h⟩ := za_2_spec h
    exact zb_st (hK _ _ _ _ h) (fun lc H locs k => lv_ishr hx hb hdg k) (fun h => ⟨trivial, h.2.2⟩)
  case iushr =>
    subst hnx
    obtain ⟨x, y, t, rfl, h⟩ := za_2_spec h
    exact zb_st (hK _ _ _ _ h) (fun lc H locs k => lv_iushr hx hb hdg rfl k) (fun h => ⟨trivial, h.2.2⟩)
  case idiv =>
    subst hnx
    obtain ⟨x, y, t, rfl, h0, h⟩ := za_2_spec h
    exact zb_st (hK _ _ _ _ h) (fun lc H locs k => lv_idiv hx hb hdg h0 k) (fun h => ⟨trivial, h.2.2⟩)
  case irem =>
    subst hnx
    obtain ⟨x, y, t, rfl, h0, h⟩ := za_2_spec h
    exact zb_st (hK _ _ _ _ h) (fun lc H locs k => lv_irem hx hb hdg h0 k) (fun h => ⟨trivial, h.2.2⟩)
  case ineg =>
    subst hnx
    obtain ⟨x, t, rfl, h⟩ := za_1_spec h
    exact zb_st (hK _ _ _ _ h) (fun lc H locs k => lv_ineg hx hb hdg k) (fun h => ⟨trivial, h.2⟩)
  case ladd =>
    subst hnx
    obtain ⟨x, y, t, rfl, h⟩ := za_L2_spec h
    exact zb_st (hK _ _ _ _ h) (fun lc H locs k => lv_ladd hx hb hdg k) (fun h => ⟨trivial, h.2.2⟩)
  case lsub =>
    subst hnx
    obtain ⟨x, y, t, rfl, h⟩ := za_L2_spec h
    exact zb_st (hK _ _ _ _ h) (fun lc H locs k => lv_lsub hx hb hdg k) (fun h => ⟨trivial, h.2.2⟩)
  case land =>
    subst hnx
    obtain ⟨x, y, t, rfl, h⟩ := za_L2_spec h
    exact zb_st (hK _ _ _ _ h) (fun lc H locs k => lv_land hx hb hdg k) (fun h => ⟨trivial, h.2.2⟩)
  case lor =>
    subst hnx
    obtain ⟨x, y, t, rfl, h⟩ := za_L2_spec h
    exact zb_st (hK _ _ _ _ h) (fun lc H locs k => lv_lor hx hb hdg k) (fun h => ⟨trivial, h.2.2⟩)
  case lxor =>
    subst hnx
    obtain ⟨x, y, t, rfl, h⟩ := za_L2_spec h
    exact zb_st (hK _ _ _ _ h) (fun lc H locs k => lv_lxor hx hb hdg k) (fun h => ⟨trivial, h.2.2⟩)
  case lcmp =>
    subst hnx
    obtain ⟨x, y, t, rfl, h⟩ := za_L2_spec h
    exact zb_st (hK _ _ _ _ h) (fun lc H locs k => W.lcmp hx hb hdg k) (fun h => ⟨trivial, h.2.2⟩)
  case lshl =>
    subst hnx
    obtain ⟨x, y, t, rfl, h⟩ := za_LI_spec h
    exact zb_st (hK _ _ _ _ h) (fun lc H locs k => lv_lshl hx hb hdg rfl k) (fun h => ⟨trivial, h.2.2⟩)
  case lshr =>
    subst hnx
    obtain ⟨x, y, t, rfl, h⟩ := za_LI_spec h
    exact zb_st (hK _ _ _ _ h) (fun lc H locs k => lv_lshr hx hb hdg rfl k) (fun h => ⟨trivial, h.2.2⟩)
  case lushr =>
    subst hnx
    obtain ⟨x, y, t, rfl, h⟩ := za_LI_spec h
    exact zb_st (hK _ _ _ _ h) (fun lc H locs k => lv_lushr hx hb hdg rfl k) (fun h => ⟨trivial, h.2.2⟩)
  case i2l =>
    subst hnx
    obtain ⟨x, t, rfl, h⟩ := za_1_spec h
    exact zb_st (hK _ _ _ _ h) (fun lc H locs k => lv_i2l hx hb hdg rfl k) (fun h => ⟨trivial, h.2⟩)
  case l2i =>
    subst hnx
    obtain ⟨x, t, rfl, h⟩ := za_L1_spec h
    exact zb_st (hK _ _ _ _ h) (fun lc H locs k => lv_l2i hx hb hdg rfl k) (fun h => ⟨trivial, h.2⟩)
  case dup =>
    subst hnx
    change za_dup st (fun t => K ls t μ κ) at h
    unfold za_dup at h
    split at h
    · exact zb_st (hK _ _ _ _ h) (fun lc H locs k => lv_dup hx hb hdg rfl k) (fun h => ⟨h.1, h⟩)
    · rename_i r t
      obtain ⟨a, ha⟩ := za_cvA ad r
      exact zb_st (hK _ _ _ _ h) (fun lc H locs k => by simp only [List.map_cons, ha] at k ⊢; exact lv_dup hx hb hdg rfl k) (fun h => ⟨h.1, h⟩)
    · exact h.elim
  case dup2 =>
    subst hnx
    change za_dup2 st (fun t => K ls t μ κ) at h
    unfold za_dup2 at h
    split at h
    · exact zb_st (hK _ _ _ _ h) (fun lc H locs k => lv_dup2_2 hx hb hdg rfl k) (fun h => ⟨h.1, h⟩)
    · exact zb_st (hK _ _ _ _ h) (fun lc H locs k => lv_dup2_11 hx hb hdg rfl rfl k) (fun h => ⟨h.1, h.2.1, h⟩)
    · rename_i x r t
      obtain ⟨a, ha⟩ := za_cvA ad r
      exact zb_st (hK _ _ _ _ h) (fun lc H locs k => by simp only [List.map_cons, ha] at k ⊢; exact lv_dup2_11 hx hb hdg rfl rfl k) (fun h => ⟨h.1, h.2.1, h⟩)
    · exact h.elim
  case dup_x1 =>
    subst hnx
    change za_dupx1 st (fun t => K ls t μ κ) at h
    unfold za_dupx1 at h
    split at h
    · exact zb_st (hK _ _ _ _ h) (fun lc H locs k => lv_dup_x1 hx hb hdg rfl rfl k) (fun h => ⟨h.1, h.2.1, h.1, h.2.2⟩)
    · rename_i x r t
      obtain ⟨a, ha⟩ := za_cvA ad r
      exact zb_st (hK _ _ _ _ h) (fun lc H locs k => by simp only [List.map_cons, ha] at k ⊢; exact lv_dup_x1 hx hb hdg rfl rfl k) (fun h => ⟨h.1, h.2.1, h.1, h.2.2⟩)
    · exact h.elim
  case pop =>
    subst hnx
    change za_drop1 st (fun t => K ls t μ κ) at h
    unfold za_drop1 at h
    split at h
    · exact zb_st (hK _ _ _ _ h) (fun lc H locs k => lv_pop hx hb hdg rfl k) (fun h => h.2)
    · rename_i r t
      obtain ⟨a, ha⟩ := za_cvA ad r
      exact zb_st (hK _ _ _ _ h) (fun lc H locs k => by simp only [List.map_cons, ha] at k ⊢; exact lv_pop hx hb hdg rfl k) (fun h => h.2)
    · exact h.elim
  case ifCond cd off =>
    subst hnx
    obtain ⟨x, t, rfl, h⟩ := za_1_spec h
    exact zb_br (fun lc H locs k => zb_if hx hb hdg hgx k) (fun h => h.2) (za_br_mono (fun h => hJ _ _ _ _ _ h) (fun h => hK _ _ _ _ h) h)
  case if_icmp cd off =>
    subst hnx
    obtain ⟨x, y, t, rfl, h⟩ := za_2_spec h
    exact zb_br (fun lc H locs k => zb_icmp hx hb hdg hgx k) (fun h => h.2.2) (za_br_mono (fun h => hJ _ _ _ _ _ h) (fun h => hK _ _ _ _ h) h)
  case goto off =>
    exact zb_st (hJ _ _ _ _ _ h) (fun lc H locs k => lv_goto hx hb hdg hgx k) (fun h => h)
  case getfield k =>
    subst hnx
    obtain ⟨⟨C, T, N⟩, h1, h2, h3⟩ := hgx
    exact zc_get hx hb hKw hwf hts (hcg _ _ h1).1 hown h1 h2 (hts _ h3) (fun _ h9 => h9) hdg (za_get_mono (fun v t h => hK _ _ _ _ h) h)
  case putfield k =>
    subst hnx
    obtain ⟨⟨C, T, N⟩, h1, h2, h3, h4⟩ := hgx
    exact zd_put hx hb hKw hD hts (hcg _ _ h1).1 (ft x1) (hcg _ _ h1).2.1 (hcg _ _ h1).2.2 hown h1 h2 (hts _ h3) (fun _ h9 => h9) h4 (fun b fs _ h => hlf b x1 x2 fs h) hdg (za_put_mono (fun v t h => hK _ _ _ _ h) h)
  case iaload =>
    subst hnx
    exact zc_ald hx hb hKw hwf hty hX hdg (Or.inl ⟨rfl, rfl⟩) (za_ald_mono (fun v t h => hK _ _ _ _ h) h)
  case baload =>
    subst hnx
    exact zc_ald hx hb hKw hwf hty hX hdg (Or.inr (Or.inl ⟨rfl, rfl⟩)) (za_ald_mono (fun v t h => hK _ _ _ _ h) h)
  case laload =>
    subst hnx
    exact zc_ald hx hb hKw hwf hty hX hdg (Or.inr (Or.inr (Or.inl ⟨rfl, rfl⟩))) (za_ald_mono (fun v t h => hK _ _ _ _ h) h)
  case aaload =>
    subst hnx
    exact zc_ald hx hb hKw hwf hty hX hdg (Or.inr (Or.inr (Or.inr ⟨rfl, rfl⟩))) (za_ald_mono (fun v t h => hK _ _ _ _ h) h)
  case iastore =>
    subst hnx
    exact zd_ast hx hb hKw hD hty hdg (Or.inl ⟨rfl, rfl⟩) (za_ast_mono (fun v t h => hK _ _ _ _ h) h)
  case bastore =>
    subst hnx
    exact zd_ast hx hb hKw hD hty hdg (Or.inr (Or.inl ⟨rfl, rfl⟩)) (za_ast_mono (fun v t h => hK _ _ _ _ h) h)
  case lastore =>
    subst hnx
    exact zd_ast hx hb hKw hD hty hdg (Or.inr (Or.inr ⟨rfl, rfl⟩)) (za_ast_mono (fun v t h => hK _ _ _ _ h) h)
  case arraylength =>
    subst hnx
    exact zd_len hx hb hKw hty hX hdg (za_len_mono (fun v t h => hK _ _ _ _ h) h)
  case invokevirtual k =>
    obtain ⟨as, t, h1, h2, h4, h3⟩ := za_cl_spec h
    exact hC k as t h1 h2 h4 (Or.inl rfl) (fun q => by cases q) h3
  case invokespecial k =>
    obtain ⟨as, t, h1, h2, h4, h3⟩ := za_cl_spec h
    exact hC k as t h1 h2 h4 (Or.inr (Or.inl rfl)) (fun q => by cases q) h3
  case invokestatic k =>
    change (match Nat.beq x1 999 with
      | true => za_cp Λ μ st (fun m t => K ls t m κ)
      | false => za_cl x2 st (fun as t => CC x1 as μ κ (fun r m q => za_back r t (fun t1 => K ls t1 m q)) (fun x m q => HX x ls m q))) at h
    split at h
    · rename_i hq
      exact hAc k rfl (Nat.eq_of_beq_eq_true hq) h
    · rename_i hq
      obtain ⟨as, t, h1, h2, h4, h3⟩ := za_cl_spec h
      exact hC k as t h1 h2 h4 (Or.inr (Or.inr rfl)) (fun _ q => by rw [q] at hq; cases hq) h3
  case new k => exact hN k rfl h
  case ireturn =>
    obtain ⟨x, t, rfl, rfl, h1, h⟩ := za_1_spec h
    exact hI x _ _ h1 h hdg
  case lreturn =>
    obtain ⟨x, t, rfl, rfl, h1, h⟩ := za_L1_spec h
    exact hL x _ _ h1 h hdg
  case areturn =>
    change za_A1 st (fun v t => t = [] ∧ ret = 4 ∧ RR (some v) μ κ) at h
    obtain ⟨r, t, rfl, rfl, h1, h⟩ := za_A1_spec h
    exact hA r _ _ h1 h hdg
  case return_ =>
    obtain ⟨rfl, h1, h⟩ := h
    exact hV _ _ h1 h hdg
  case tableswitch d lo hi offs =>
    obtain ⟨x, t, rfl, h⟩ := za_1_spec h
    obtain ⟨g1, g2, g3, g4, g5⟩ := hgx
    rcases ze_sw h with ⟨h1, h2⟩ | ⟨k, tg, h1, h2, h3⟩
    · have hout : x.toInt < lo ∨ hi < x.toInt := by
        rcases (show x.toInt < lo ∨ lo ≤ x.toInt by omega) with q | q
        · exact Or.inl q
        · rcases (show hi < x.toInt ∨ x.toInt ≤ hi by omega) with q2 | q2
          · exact Or.inr q2
          · refine absurd ?_ (h1 (x.toInt - lo).toNat (by simp only [List.length_map, Array.length_toList]; omega))
            rw [show lo + (((x.toInt - lo).toNat : Nat) : Int) = x.toInt by omega, Int32.ofInt_toInt]
      exact zb_st (hJ _ _ _ _ _ h2) (fun lc H locs k => lv_tableOut hx hb hdg hout g1 k) (fun h => h.2)
    · rw [List.getElem?_map, Option.map_eq_some_iff] at h1
      obtain ⟨o, ho, he⟩ := h1
      rw [Array.getElem?_toList] at ho
      have hk : k < offs.size := (Array.getElem?_eq_some_iff.mp ho).1
      have hxi : x.toInt = lo + (k : Int) := by rw [h2]; exact Int32.toInt_ofInt_of_le (by omega) (by omega)
      have hnn : 0 ≤ (pc : Int) + o := by
        have := List.all_eq_true.mp g5 o (Array.mem_toList_iff.mpr (Array.mem_of_getElem? ho))
        simpa using this
      exact zb_st (hJ _ _ _ _ _ h3) (fun lc H locs kk => lv_tableIn (off := o) (tgt := tg) hx hb hdg (by omega) (by omega) (by rw [hxi, show lo + (k : Int) - lo = (k : Int) by omega, Int.toNat_natCast]; exact ho) (by omega) kk) (fun h => h.2)
  all_goals exact h.elim
end ZE
