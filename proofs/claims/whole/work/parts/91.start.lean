/-! THE LAW, FROM ITS ENTRY, by program -/
theorem ze_ty {cI cZ cJ cII cJJ cB : ClassId} : za_ty zt_Λ (zj_ca cI cZ cJ cII cJJ cB) (zj_tys cI cZ cJ cII cJJ cB) := by
  intro b sh h
  match b, h with
  | 0, h => obtain rfl : ((4, 5, [(1, 1, 0), (1, 11, 0), (1, 20, 0), (1, 24, 0), (1, 24, 1)]) : za_S) = sh := Option.some.inj h; exact ⟨fun q => absurd q (by decide), fun q => absurd q (by decide), fun q => absurd q (by decide), fun q => absurd q (by decide)⟩
  | 1, h => obtain rfl : ((4, 1, [(0, 0, 0), (1, 2, 0), (1, 3, 0), (0, 0, 0), (1, 4, 0), (1, 5, 0), (1, 7, 0), (1, 9, 0), (1, 10, 0)]) : za_S) = sh := Option.some.inj h; exact ⟨fun q => absurd q (by decide), fun q => absurd q (by decide), fun q => absurd q (by decide), fun q => absurd q (by decide)⟩
  | 2, h => obtain rfl : ((0, 8, []) : za_S) = sh := Option.some.inj h; exact ⟨fun _ => ⟨0, rfl⟩, fun q => absurd q (by decide), fun q => absurd q (by decide), fun q => absurd q (by decide)⟩
  | 3, h => obtain rfl : ((0, 8, []) : za_S) = sh := Option.some.inj h; exact ⟨fun _ => ⟨0, rfl⟩, fun q => absurd q (by decide), fun q => absurd q (by decide), fun q => absurd q (by decide)⟩
  | 4, h => obtain rfl : ((0, 16, []) : za_S) = sh := Option.some.inj h; exact ⟨fun _ => ⟨0, rfl⟩, fun q => absurd q (by decide), fun q => absurd q (by decide), fun q => absurd q (by decide)⟩
  | 5, h => obtain rfl : ((3, 16, [(6, 0, 0)]) : za_S) = sh := Option.some.inj h; exact ⟨fun q => absurd q (by decide), fun q => absurd q (by decide), fun q => absurd q (by decide), fun _ => ⟨3, _, rfl, rfl⟩⟩
  | 6, h => obtain rfl : ((0, 4, []) : za_S) = sh := Option.some.inj h; exact ⟨fun _ => ⟨0, rfl⟩, fun q => absurd q (by decide), fun q => absurd q (by decide), fun q => absurd q (by decide)⟩
  | 7, h => obtain rfl : ((3, 16, [(8, 0, 0)]) : za_S) = sh := Option.some.inj h; exact ⟨fun q => absurd q (by decide), fun q => absurd q (by decide), fun q => absurd q (by decide), fun _ => ⟨3, _, rfl, rfl⟩⟩
  | 8, h => obtain rfl : ((0, 32, []) : za_S) = sh := Option.some.inj h; exact ⟨fun _ => ⟨0, rfl⟩, fun q => absurd q (by decide), fun q => absurd q (by decide), fun q => absurd q (by decide)⟩
  | 9, h => obtain rfl : ((0, 16, []) : za_S) = sh := Option.some.inj h; exact ⟨fun _ => ⟨0, rfl⟩, fun q => absurd q (by decide), fun q => absurd q (by decide), fun q => absurd q (by decide)⟩
  | 10, h => obtain rfl : ((0, 16, []) : za_S) = sh := Option.some.inj h; exact ⟨fun _ => ⟨0, rfl⟩, fun q => absurd q (by decide), fun q => absurd q (by decide), fun q => absurd q (by decide)⟩
  | 11, h => obtain rfl : ((4, 4, [(0, 1, 0), (0, 1, 0), (0, 1, 0), (1, 12, 0), (1, 13, 0), (1, 15, 0), (1, 16, 0), (1, 17, 0)]) : za_S) = sh := Option.some.inj h; exact ⟨fun q => absurd q (by decide), fun q => absurd q (by decide), fun q => absurd q (by decide), fun q => absurd q (by decide)⟩
  | 12, h => obtain rfl : ((0, 8, []) : za_S) = sh := Option.some.inj h; exact ⟨fun _ => ⟨0, rfl⟩, fun q => absurd q (by decide), fun q => absurd q (by decide), fun q => absurd q (by decide)⟩
  | 13, h => obtain rfl : ((3, 8, [(14, 0, 0)]) : za_S) = sh := Option.some.inj h; exact ⟨fun q => absurd q (by decide), fun q => absurd q (by decide), fun q => absurd q (by decide), fun _ => ⟨4, _, rfl, rfl⟩⟩
  | 14, h => obtain rfl : ((2, 10, []) : za_S) = sh := Option.some.inj h; exact ⟨fun q => absurd q (by decide), fun q => absurd q (by decide), fun _ => ⟨2, rfl⟩, fun q => absurd q (by decide)⟩
  | 15, h => obtain rfl : ((0, 8, []) : za_S) = sh := Option.some.inj h; exact ⟨fun _ => ⟨0, rfl⟩, fun q => absurd q (by decide), fun q => absurd q (by decide), fun q => absurd q (by decide)⟩
  | 16, h => obtain rfl : ((0, 8, []) : za_S) = sh := Option.some.inj h; exact ⟨fun _ => ⟨0, rfl⟩, fun q => absurd q (by decide), fun q => absurd q (by decide), fun q => absurd q (by decide)⟩
  | 17, h => obtain rfl : ((3, 4, [(18, 0, 0)]) : za_S) = sh := Option.some.inj h; exact ⟨fun q => absurd q (by decide), fun q => absurd q (by decide), fun q => absurd q (by decide), fun _ => ⟨5, _, rfl, rfl⟩⟩
  | 18, h => obtain rfl : ((4, 0, [(2, 19, 0), (0, 1, 0)]) : za_S) = sh := Option.some.inj h; exact ⟨fun q => absurd q (by decide), fun q => absurd q (by decide), fun q => absurd q (by decide), fun q => absurd q (by decide)⟩
  | 19, h => obtain rfl : ((0, 32, []) : za_S) = sh := Option.some.inj h; exact ⟨fun _ => ⟨0, rfl⟩, fun q => absurd q (by decide), fun q => absurd q (by decide), fun q => absurd q (by decide)⟩
  | 20, h => obtain rfl : ((4, 3, [(0, 1, 0), (0, 1, 0), (0, 1, 0), (1, 21, 0), (1, 22, 0), (1, 23, 0), (1, 18, 4)]) : za_S) = sh := Option.some.inj h; exact ⟨fun q => absurd q (by decide), fun q => absurd q (by decide), fun q => absurd q (by decide), fun q => absurd q (by decide)⟩
  | 21, h => obtain rfl : ((1, 8, []) : za_S) = sh := Option.some.inj h; exact ⟨fun q => absurd q (by decide), fun _ => ⟨1, rfl⟩, fun q => absurd q (by decide), fun q => absurd q (by decide)⟩
  | 22, h => obtain rfl : ((2, 8, []) : za_S) = sh := Option.some.inj h; exact ⟨fun q => absurd q (by decide), fun q => absurd q (by decide), fun _ => ⟨2, rfl⟩, fun q => absurd q (by decide)⟩
  | 23, h => obtain rfl : ((2, 8, []) : za_S) = sh := Option.some.inj h; exact ⟨fun q => absurd q (by decide), fun q => absurd q (by decide), fun _ => ⟨2, rfl⟩, fun q => absurd q (by decide)⟩
  | 24, h => obtain rfl : ((4, 2, [(0, 1, 0), (0, 1, 0), (0, 0, 0), (2, 25, 0), (0, 1, 0), (2, 27, 0), (2, 28, 0)]) : za_S) = sh := Option.some.inj h; exact ⟨fun q => absurd q (by decide), fun q => absurd q (by decide), fun q => absurd q (by decide), fun q => absurd q (by decide)⟩
  | 25, h => obtain rfl : ((3, 8, [(26, 0, 0)]) : za_S) = sh := Option.some.inj h; exact ⟨fun q => absurd q (by decide), fun q => absurd q (by decide), fun q => absurd q (by decide), fun _ => ⟨3, _, rfl, rfl⟩⟩
  | 26, h => obtain rfl : ((0, 6, []) : za_S) = sh := Option.some.inj h; exact ⟨fun _ => ⟨0, rfl⟩, fun q => absurd q (by decide), fun q => absurd q (by decide), fun q => absurd q (by decide)⟩
  | 27, h => obtain rfl : ((0, 8, []) : za_S) = sh := Option.some.inj h; exact ⟨fun _ => ⟨0, rfl⟩, fun q => absurd q (by decide), fun q => absurd q (by decide), fun q => absurd q (by decide)⟩
  | 28, h => obtain rfl : ((0, 8, []) : za_S) = sh := Option.some.inj h; exact ⟨fun _ => ⟨0, rfl⟩, fun q => absurd q (by decide), fun q => absurd q (by decide), fun q => absurd q (by decide)⟩
  | 29, h => obtain rfl : ((2, 1, []) : za_S) = sh := Option.some.inj h; exact ⟨fun q => absurd q (by decide), fun q => absurd q (by decide), fun _ => ⟨2, rfl⟩, fun q => absurd q (by decide)⟩
  | 30, h => obtain rfl : ((4, 6, [(0, 0, 0), (0, 0, 0), (1, 31, 0), (1, 32, 0), (0, 0, 0), (1, 33, 0), (1, 34, 0), (0, 1, 0), (0, 1, 0), (0, 1, 0), (1, 35, 0), (1, 36, 0), (1, 37, 0), (1, 38, 0), (0, 1, 0), (1, 39, 0), (1, 40, 0), (1, 41, 0), (0, 1, 0), (0, 1, 0), (1, 42, 0), (1, 43, 0), (0, 0, 0)]) : za_S) = sh := Option.some.inj h; exact ⟨fun q => absurd q (by decide), fun q => absurd q (by decide), fun q => absurd q (by decide), fun q => absurd q (by decide)⟩
  | 31, h => obtain rfl : ((0, 8, []) : za_S) = sh := Option.some.inj h; exact ⟨fun _ => ⟨0, rfl⟩, fun q => absurd q (by decide), fun q => absurd q (by decide), fun q => absurd q (by decide)⟩
  | 32, h => obtain rfl : ((0, 8, []) : za_S) = sh := Option.some.inj h; exact ⟨fun _ => ⟨0, rfl⟩, fun q => absurd q (by decide), fun q => absurd q (by decide), fun q => absurd q (by decide)⟩
  | 33, h => obtain rfl : ((0, 64, []) : za_S) = sh := Option.some.inj h; exact ⟨fun _ => ⟨0, rfl⟩, fun q => absurd q (by decide), fun q => absurd q (by decide), fun q => absurd q (by decide)⟩
  | 34, h => obtain rfl : ((0, 512, []) : za_S) = sh := Option.some.inj h; exact ⟨fun _ => ⟨0, rfl⟩, fun q => absurd q (by decide), fun q => absurd q (by decide), fun q => absurd q (by decide)⟩
  | 35, h => obtain rfl : ((0, 8, []) : za_S) = sh := Option.some.inj h; exact ⟨fun _ => ⟨0, rfl⟩, fun q => absurd q (by decide), fun q => absurd q (by decide), fun q => absurd q (by decide)⟩
  | 36, h => obtain rfl : ((2, 88, []) : za_S) = sh := Option.some.inj h; exact ⟨fun q => absurd q (by decide), fun q => absurd q (by decide), fun _ => ⟨2, rfl⟩, fun q => absurd q (by decide)⟩
  | 37, h => obtain rfl : ((0, 48, []) : za_S) = sh := Option.some.inj h; exact ⟨fun _ => ⟨0, rfl⟩, fun q => absurd q (by decide), fun q => absurd q (by decide), fun q => absurd q (by decide)⟩
  | 38, h => obtain rfl : ((0, 32, []) : za_S) = sh := Option.some.inj h; exact ⟨fun _ => ⟨0, rfl⟩, fun q => absurd q (by decide), fun q => absurd q (by decide), fun q => absurd q (by decide)⟩
  | 39, h => obtain rfl : ((1, 8, []) : za_S) = sh := Option.some.inj h; exact ⟨fun q => absurd q (by decide), fun _ => ⟨1, rfl⟩, fun q => absurd q (by decide), fun q => absurd q (by decide)⟩
  | 40, h => obtain rfl : ((0, 64, []) : za_S) = sh := Option.some.inj h; exact ⟨fun _ => ⟨0, rfl⟩, fun q => absurd q (by decide), fun q => absurd q (by decide), fun q => absurd q (by decide)⟩
  | 41, h => obtain rfl : ((0, 64, []) : za_S) = sh := Option.some.inj h; exact ⟨fun _ => ⟨0, rfl⟩, fun q => absurd q (by decide), fun q => absurd q (by decide), fun q => absurd q (by decide)⟩
  | 42, h => obtain rfl : ((0, 64, []) : za_S) = sh := Option.some.inj h; exact ⟨fun _ => ⟨0, rfl⟩, fun q => absurd q (by decide), fun q => absurd q (by decide), fun q => absurd q (by decide)⟩
  | 43, h => obtain rfl : ((1, 64, []) : za_S) = sh := Option.some.inj h; exact ⟨fun q => absurd q (by decide), fun _ => ⟨1, rfl⟩, fun q => absurd q (by decide), fun q => absurd q (by decide)⟩
  | n + 44, h => cases (show (none : Option za_S) = some sh from h)
theorem ze_om : ∀ ty ∈ zj_OT, Cond.arrayOver ty ∈ lw_tbl := by
  unfold zj_OT
  exact List.forall_mem_cons.mpr ⟨List.mem_of_getElem? (i := 84) (by decide +kernel), List.forall_mem_cons.mpr ⟨List.mem_of_getElem? (i := 138) (by decide +kernel), List.forall_mem_cons.mpr ⟨List.mem_of_getElem? (i := 140) (by decide +kernel), fun _ h => absurd h List.not_mem_nil⟩⟩⟩
def R_law : String := "AttributeKindsLaw"
/-- what holds at the law's entry -/
def lw_At (p : Program) (s : State) (m : MethodId) (meth : Method) (c : Code) (b L : Nat) (xs : Nat → Int32) : Prop :=
  p.tables.exec = Jvm.exec ∧ c.code = code ∧ meth.sig.returnType = ret ∧ c.maxLocals = 7 ∧ s.vm.findClass R_law = some m.cls ∧ (∀ w ∈ lw_tbl, w.before #[Value.ref b] s = true) ∧ va_X b L xs s s.heap ∧ b < s.heap.size ∧ meth.locks = false ∧ (Jvm.Cond.and given_1 narrow_1).before #[Value.ref b] s = true
theorem ze_casts {s : State} {args : Array Value} (hgv : (Jvm.Cond.and given_1 narrow_1).before args s = true) (E F : Nat) (cE cF : ClassId) (hE : E < 3) (hF : F < 3) (hn : E ≠ F) (x : s.vm.findClass (zt_EN E) = some cE) (y : s.vm.findClass (zt_EN F) = some cF) : s.vm.assignable cE cF = false := by
  have hs := flat_of_before _ hgv
  match E, F, hE, hF, hn, x, y with
  | 0, 0, _, _, hn, _, _ => exact absurd rfl hn
  | 1, 1, _, _, hn, _, _ => exact absurd rfl hn
  | 2, 2, _, _, hn, _, _ => exact absurd rfl hn
  | 0, 1, _, _, _, x, y => exact ze_cast (hs (Cond.not (Cond.castable "java/lang/IllegalArgumentException" "java/lang/UnsupportedOperationException")) (by decide +kernel)) x y
  | 0, 2, _, _, _, x, y => exact ze_cast (hs (Cond.not (Cond.castable "java/lang/IllegalArgumentException" "java/lang/IndexOutOfBoundsException")) (by decide +kernel)) x y
  | 1, 0, _, _, _, x, y => exact ze_cast (hs (Cond.not (Cond.castable "java/lang/UnsupportedOperationException" "java/lang/IllegalArgumentException")) (by decide +kernel)) x y
  | 1, 2, _, _, _, x, y => exact ze_cast (hs (Cond.not (Cond.castable "java/lang/UnsupportedOperationException" "java/lang/IndexOutOfBoundsException")) (by decide +kernel)) x y
  | 2, 0, _, _, _, x, y => exact ze_cast (hs (Cond.not (Cond.castable "java/lang/IndexOutOfBoundsException" "java/lang/IllegalArgumentException")) (by decide +kernel)) x y
  | 2, 1, _, _, _, x, y => exact ze_cast (hs (Cond.not (Cond.castable "java/lang/IndexOutOfBoundsException" "java/lang/UnsupportedOperationException")) (by decide +kernel)) x y
theorem ze_stat {s : State} {b : Nat} {A0 : Nat → Prop} (hts : ∀ w ∈ lw_tbl, w.before #[Value.ref b] s = true) (hgv : (Jvm.Cond.and given_1 narrow_1).before #[Value.ref b] s = true) (hA : ∀ a : Nat, a < s.heap.size → ¬ A0 a) : zs_Z "UNASSIGNED_STACK" Bundle.steD A0 s ∧ zs_Z "SUPPRESSED_SENTINEL" Bundle.listD A0 s := by
  have hs := flat_of_before _ hgv
  exact ⟨ze_Zs (hts (Cond.laysStatic "java/lang/Throwable" "UNASSIGNED_STACK" "[Ljava/lang/StackTraceElement;") (List.mem_of_getElem? (i := 435) (by decide +kernel))) (hs (Cond.isRef (.static "java/lang/Throwable" "UNASSIGNED_STACK" "[Ljava/lang/StackTraceElement;")) (by decide +kernel)) hA,
    ze_Zs (hts (Cond.laysStatic "java/lang/Throwable" "SUPPRESSED_SENTINEL" "Ljava/util/List;") (List.mem_of_getElem? (i := 437) (by decide +kernel))) (hs (Cond.isRef (.static "java/lang/Throwable" "SUPPRESSED_SENTINEL" "Ljava/util/List;")) (by decide +kernel)) hA⟩
theorem ze_ga (f : Nat → Int32) : ga gq_0 (zj_mu f) := ga_of_z (gq_C0 rfl rfl) ⟨rfl, rfl, rfl, rfl, rfl, rfl⟩
theorem ze_gm (f : Nat → Int32) : gm gq_0 (zj_mu f) := ⟨⟨rfl, rfl, fun s hs => absurd hs (Nat.not_lt_zero s), fun p o hp => absurd hp (Nat.not_lt_zero p), fun p x hp hx => (if_neg (Nat.not_lt_zero p)).symm⟩, Or.inl rfl, Or.inl rfl⟩
set_option maxHeartbeats 8000000 in
set_option maxRecDepth 100000 in
/-- from the law's loop on -/
theorem ze_go {p : Program} {e : Env} {s : State} {m : MethodId} {below : List Frame} {meth : Method} {c : Code} {l : Launch} (hst : l.stackTraces = false) {b L : Nat} {xs : Nat → Int32} (hL : L ≤ 2560) (C0 : lw_At p s m meth c b L xs) {dC : Nat → ClassId} {dI : Nat → Nat → Nat} {cI cZ cJ cII cJJ cB : ClassId} (hW : zk_W zt s) (hK : va_K (dC, dI) zt_cl (zj_tys cI cZ cJ cII cJJ cB) s) (ak : Nat) (u : Nat × (Nat × Nat × Nat × Nat × Nat × Nat × Nat × (Nat → Nat) × (Nat → Nat)) × Nat × (Nat × Nat × Nat × Nat × Nat × Nat × Nat × Nat × Nat × Nat × Nat × Nat × Nat × (Nat → Nat)) × Nat × (Nat × Nat × Nat × Nat × Nat) × Nat × (Nat × Nat × Nat × (Nat → Nat)) × Nat × (Nat × Nat × Nat × (Nat → Nat))) (mo : Nat) (v : Nat × Nat × Nat × Nat × Nat × Nat × Nat × Nat × Nat × Nat × Nat × Nat × Nat × (Nat → Int32)) (out : Nat) {H : Heap} {locs : List Loc} {ls : Array Slot} {cells slots : Nat}
    (hw : zj_w (dC, dI) (fun q => s.heap.size ≤ q) s.heap (((([] ++ zj_W1_Kinds cI cZ cJ cII cJJ cB ak u) ++ zj_W1_Model cI cZ cJ cII cJJ cB mo v) ++ [(out, .inl (cJ, 1, .inr (.inl fun _ => 0)))]) ++ ((([] ++ zj_W2_Kinds cI cZ cJ cII cJJ cB ak u) ++ zj_W2_Model cI cZ cJ cII cJJ cB mo v))) H locs) (hl : lv_has ls 7 [(4, .int 0), (3, .ref out), (2, .ref mo), (1, .ref ak), (0, .ref b)]) (hc : cells ≤ 1000) (hs : slots ≤ 100000) : W p l e room_1 s m #[Value.ref b] below meth c H locs cells slots (lw_Z below #[Value.ref b] s) (F0 m 23 ls []) := by
  obtain ⟨hx, hb, hr, hml, hown, hts, hX, hbl, hlocks, hgv⟩ := id C0
  have hw := zj_world ak u mo v out hw
  have hP : va_P (dC, dI) zt_cl (za_ws zt_Λ zt_cn (zj_ad ak u mo v out) (zj_ca cI cZ cJ cII cJJ cB) (zj_mu v.2.2.2.2.2.2.2.2.2.2.2.2.2)) H := ze_order zj_pos_all hw.1
  have hD : ∀ ν : za_M, va_D (fun q => s.heap.size ≤ q) (za_ws zt_Λ zt_cn (zj_ad ak u mo v out) (zj_ca cI cZ cJ cII cJJ cB) ν) := fun ν => ze_orderD (f := zj_F cI cZ cJ cII cJJ cB ak u mo v out (zj_mu v.2.2.2.2.2.2.2.2.2.2.2.2.2)) (g := zj_F cI cZ cJ cII cJJ cB ak u mo v out ν) zj_pos_all zj_pos_nd (fun _ => rfl) hw.2.1
  have hnew : ∀ b j, b < zt_Λ.length → j < zt_cn b → s.heap.size ≤ zj_ad ak u mo v out b j := fun b j h1 h2 => by
    have hm : (b, j) ∈ za_ps zt_cn zt_Λ.length := za_ps_mem.mpr ⟨h1, h2⟩
    obtain ⟨k, hk⟩ := List.getElem?_of_mem hm
    exact (hD (zj_mu v.2.2.2.2.2.2.2.2.2.2.2.2.2)).2 k (zj_F cI cZ cJ cII cJJ cB ak u mo v out (zj_mu v.2.2.2.2.2.2.2.2.2.2.2.2.2) (b, j)) (by unfold za_ws; rw [List.getElem?_map, hk]; rfl)
  have hS := hw.2.2
  generalize hΓ : ((l, zj_ad ak u mo v out, zj_ca cI cZ cJ cII cJJ cB, (dC, dI), zj_tys cI cZ cJ cII cJJ cB) : zk_G) = Γ
  have hA0 : ∀ a : Nat, a < s.heap.size → ¬ zk_A0 zt Γ a := fun a ha ⟨b1, j1, h1, h2, h3⟩ => by
    subst hΓ
    have := hnew b1 j1 h1 h2
    rw [h3] at ha
    exact absurd ha (Nat.not_lt.mpr this)
  have hI : zk_I zt Γ s := by
    obtain ⟨z1, z2⟩ := ze_stat hts hgv hA0
    subst hΓ
    exact ⟨hW, hK, fun ν => (hD ν).weaken (fun _ _ _ _ => trivial), ze_ty, hst, z1, z2, ze_casts hgv⟩
  have hbA : ¬ zk_A zt Γ s.heap.size b := fun h => by
    rcases h with h | h
    · exact hA0 b hbl h
    · omega
  have Cx : za_Cx p s m #[Value.ref b] c zt_Λ zt_cn Γ.2.1 Γ.2.2.1 Γ.2.2.2.1 zt_cl (zk_A zt Γ s.heap.size) code Γ.2.2.2.2 (true, b, L, xs) "AttributeKindsLaw" zt_WS zt_ft := by
    refine ⟨hx, hb, fun w hw => hW w hw _, hown, hI.2.1, fun ν => ?_, zt_gt.1, hI.2.2.2.1, zt_cg, fun _ => ⟨hX, hbl, hbA⟩⟩
    subst hΓ
    exact (hD ν).weaken (fun _ _ _ h => Or.inr h)
  have hnew' : ∀ b j, b < zt_Λ.length → j < zt_cn b → s.heap.size ≤ Γ.2.1 b j := by
    subst hΓ
    exact hnew
  have hS' : va_S (zk_A zt Γ s.heap.size) s.heap H locs := ⟨hS.1, fun q h1 h2 => hS.2.1 q h1 (fun h => h2 (Or.inr h)), fun q hq => Or.inr (hS.2.2 q hq)⟩
  have run := zl_run (e := e) (below := below) (meth := meth) Cx hI hml hr hlocks hnew'
  have fin := zl_loop run hL ((gq_0, zj_mu v.2.2.2.2.2.2.2.2.2.2.2.2.2, (cells, slots)), 0, none, none) ⟨⟨gq_0_ok, ze_ga _, ze_gm _, hc, hs, Nat.zero_le _⟩, by show 5 * 0 ≤ L + 5; omega⟩ 0 rfl
  refine zl_less (R' := zk_rm 1312 601024 7293034) (Nat.le_of_ble_eq_true rfl) (Nat.le_of_ble_eq_true rfl) (Nat.le_of_ble_eq_true rfl) (Nat.le_of_ble_eq_true rfl) ?_
  subst hΓ
  refine fin trivial (fun i w h => ?_) ls H locs ⟨rfl, hl.1, hl.2.1, fun i w h => ?_⟩ hP hS'
  · match i, h with
    | 0, h => obtain rfl : za_q b = w := Option.some.inj (Option.some.inj h); trivial
    | 1, h => obtain rfl : za_r 0 0 = w := Option.some.inj (Option.some.inj h); exact (by decide : 0 < zt_cn 0)
    | 2, h => obtain rfl : za_r 30 0 = w := Option.some.inj (Option.some.inj h); exact (by decide : 0 < zt_cn 30)
    | 3, h => obtain rfl : za_r 29 0 = w := Option.some.inj (Option.some.inj h); exact (by decide : 0 < zt_cn 29)
    | 4, h => obtain rfl : za_i 0 = w := Option.some.inj (Option.some.inj h); trivial
    | 5, h => cases (show (some none : Option (Option za_V)) = some (some w) from h)
    | 6, h => cases (show (some none : Option (Option za_V)) = some (some w) from h)
    | n + 7, h => cases (show (none : Option (Option za_V)) = some (some w) from h)
  · match i, h with
    | 0, h => obtain rfl : za_q b = w := Option.some.inj (Option.some.inj h); exact lv_at hl 4 rfl
    | 1, h => obtain rfl : za_r 0 0 = w := Option.some.inj (Option.some.inj h); exact lv_at hl 3 rfl
    | 2, h => obtain rfl : za_r 30 0 = w := Option.some.inj (Option.some.inj h); exact lv_at hl 2 rfl
    | 3, h => obtain rfl : za_r 29 0 = w := Option.some.inj (Option.some.inj h); exact lv_at hl 1 rfl
    | 4, h => obtain rfl : za_i 0 = w := Option.some.inj (Option.some.inj h); exact lv_at hl 0 rfl
    | 5, h => cases (show (some none : Option (Option za_V)) = some (some w) from h)
    | 6, h => cases (show (some none : Option (Option za_V)) = some (some w) from h)
    | n + 7, h => cases (show (none : Option (Option za_V)) = some (some w) from h)
set_option maxHeartbeats 8000000 in
set_option maxRecDepth 100000 in
/-- from the entry, for every script of at most 2560 ints, the law comes to its end with true; no traces are kept -/
theorem whole_start {p : Program} {e : Env} {s : State} {m : MethodId} {below : List Frame} {meth : Method} {c : Code} (l : Launch) (hst : l.stackTraces = false) {b L : Nat} {xs : Nat → Int32} (hL : L ≤ 2560) (C0 : lw_At p s m meth c b L xs) : W p l e room_1 s m #[Value.ref b] below meth c s.heap [] 0 0 (lw_Z below #[Value.ref b] s) (entryFrame m ([Value.ref b] : List Value).toArray 7) := by
  obtain ⟨hx, hb, hr, hml, hown, hts, hX, hbl, hlocks, hgv⟩ := id C0
  have hW := ze_words hts
  have hO : zj_O s := ze_O hts ze_om
  obtain ⟨dC, dI, cI, cZ, cJ, cII, cJJ, cB, hK⟩ := ze_K (b := b) hW hO
  have C1 : zj_C p s m #[Value.ref b] meth c code "AttributeKindsLaw" (dC, dI) (fun q => s.heap.size ≤ q) 7 (zj_tys cI cZ cJ cII cJJ cB) := ⟨hx, hb, hW, hown, hK, hml, fun _ h => h, hlocks, hO⟩
  have hw : zj_w (dC, dI) (fun q => s.heap.size ≤ q) s.heap ([] ++ []) s.heap [] := ⟨fun k q h => by simp at h, ⟨fun i j p q h => by simp at h, fun k q h => by simp at h⟩, va_S.rf⟩
  have hl := lv_entry ([.ref b]) (n := 7) (Nat.le_of_ble_eq_true rfl)
  rw [lg_entry_eq]
  generalize (lg_sl ([.ref b]) ++ List.replicate (7 - (lg_sl ([.ref b])).length) Slot.unset).toArray = ls at hl ⊢
  have hl : lv_has ls 7 [(0, .ref b)] := hl
  refine zj_new C1 hw (index := 8) 5 rfl zv_cl_L_8 zv_in_A zw_ini_5 [.null, .null, .null, .null, .null] (by decide +kernel) (Nat.le_of_ble_eq_true rfl) (Nat.le_of_ble_eq_true rfl) (by decide +kernel) (fun ak H hw => ?_)
  refine lv_dup C1.1 C1.2.1 (by decide +kernel) rfl ?_
  refine zj_call C1 hw (zj_Kinds ak) zv_cd_A zw_ini_5 zv_ml_L_42 zv_im_A rfl (by decide +kernel) rfl (Nat.le_of_ble_eq_true rfl) (Nat.le_of_ble_eq_true rfl) hl.1 (Nat.le_of_ble_eq_true rfl) rfl (by decide +kernel) (Nat.le_of_ble_eq_true rfl) (Nat.le_of_ble_eq_true rfl) (fun u H locs hw => ?_)
  refine lv_astore_n (k := 1) (i := 1) (lv' := [(1, .ref ak), (0, .ref b)]) C1.1 C1.2.1 (by decide +kernel) rfl hl (by decide) rfl (fun ls hl => ?_)
  refine zj_new C1 hw (index := 43) 6 rfl zv_cl_L_43 zv_in_M zw_ini_6 [.int 0, .int 0, .null, .null, .int 0, .null, .null, .int 0, .int 0, .int 0, .null, .null, .null, .null, .int 0, .null, .null, .null, .int 0, .int 0, .null, .null, .int 0] (by decide +kernel) (Nat.le_of_ble_eq_true rfl) (Nat.le_of_ble_eq_true rfl) (by decide +kernel) (fun mo H hw => ?_)
  refine lv_dup C1.1 C1.2.1 (by decide +kernel) rfl ?_
  refine zj_call C1 hw (zj_Model mo) zv_cd_M zw_ini_6 zv_ml_L_45 zv_im_M rfl (by decide +kernel) rfl (Nat.le_of_ble_eq_true rfl) (Nat.le_of_ble_eq_true rfl) hl.1 (Nat.le_of_ble_eq_true rfl) rfl (by decide +kernel) (Nat.le_of_ble_eq_true rfl) (Nat.le_of_ble_eq_true rfl) (fun v H locs hw => ?_)
  refine lv_astore_n (k := 2) (i := 2) (lv' := [(2, .ref mo), (1, .ref ak), (0, .ref b)]) C1.1 C1.2.1 (by decide +kernel) rfl hl (by decide) rfl (fun ls hl => ?_)
  refine lv_iconst (n := 1) (v := 1) C1.1 C1.2.1 (by decide +kernel) (by decide) ?_
  refine zj_newa C1 hw (atype := .long) 2 rfl rfl zv_ac_long (1, .inr (.inl fun _ => 0)) (fun _ => rfl) (by decide) rfl (by decide +kernel) (Nat.le_of_ble_eq_true rfl) (Nat.le_of_ble_eq_true rfl) (by decide +kernel) (fun out H hw => ?_)
  refine lv_astore_n (k := 3) (i := 3) (lv' := [(3, .ref out), (2, .ref mo), (1, .ref ak), (0, .ref b)]) C1.1 C1.2.1 (by decide +kernel) rfl hl (by decide) rfl (fun ls hl => ?_)
  refine lv_iconst (n := 0) (v := 0) C1.1 C1.2.1 (by decide +kernel) (by decide) ?_
  refine lv_istore (i := 4) (lv' := [(4, .int 0), (3, .ref out), (2, .ref mo), (1, .ref ak), (0, .ref b)]) C1.1 C1.2.1 (by decide +kernel) hl (by decide) rfl (fun ls hl => ?_)
  exact ze_go hst hL C0 hW hK ak u mo v out hw hl (Nat.le_of_ble_eq_true rfl) (Nat.le_of_ble_eq_true rfl)
