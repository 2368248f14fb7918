/-! a place in the code, over the layout -/
def za_Z (p : Program) (l : Launch) (e : Env) (R : Room) (s : State) (m : MethodId) (args : Array Value) (below : List Frame) (meth : Method) (c : Code) (Λ : List za_S) (cn : Nat → Nat) (ad : Nat → Nat → Nat) (ca : Nat → ClassId) (D : va_G) (cl : List vw_C) (A : Nat → Prop) (nL : Nat) (Q : State → Prop) (pc : Nat) : za_K := fun ls st μ κ =>
  za_oks cn st → za_okc cn ls → ∀ (lc : Array Slot) (H : Heap) (locs : List Loc), za_lo ad nL ls lc → va_P D cl (za_ws Λ cn ad ca μ) H → va_S A s.heap H locs → W p l e R s m args below meth c H locs κ.1 κ.2 Q (F0 m pc lc (st.map (za_cv ad)))
theorem za_ldI_spec {ls : za_C} {i : Nat} {k : Int32 → Prop} (h : za_ldI ls i k) : ∃ x, za_n ls i = some (some (.inl x)) ∧ k x := by
  unfold za_ldI at h
  split at h
  · rename_i x hx; exact ⟨x, hx, h⟩
  · exact h.elim
theorem za_ldL_spec {ls : za_C} {i : Nat} {k : Int64 → Prop} (h : za_ldL ls i k) : ∃ x, za_n ls i = some (some (.inr (.inl x))) ∧ k x := by
  unfold za_ldL at h
  split at h
  · rename_i x hx; exact ⟨x, hx, h⟩
  · exact h.elim
theorem za_ldA_spec {ls : za_C} {i : Nat} {k : za_V → Prop} (h : za_ldA ls i k) : ∃ r, za_n ls i = some (some (.inr (.inr r))) ∧ k (.inr (.inr r)) := by
  unfold za_ldA at h
  split at h
  · rename_i x hx; exact ⟨x, hx, h⟩
  · exact h.elim
theorem za_1_spec {st : List za_V} {k : Int32 → List za_V → Prop} (h : za_1 st k) : ∃ x t, st = .inl x :: t ∧ k x t := by
  unfold za_1 at h
  split at h
  · rename_i x t; exact ⟨x, t, rfl, h⟩
  · exact h.elim
theorem za_2_spec {st : List za_V} {k : Int32 → Int32 → List za_V → Prop} (h : za_2 st k) : ∃ x y t, st = .inl y :: .inl x :: t ∧ k x y t := by
  unfold za_2 at h
  split at h
  · rename_i y x t; exact ⟨x, y, t, rfl, h⟩
  · exact h.elim
theorem za_L1_spec {st : List za_V} {k : Int64 → List za_V → Prop} (h : za_L1 st k) : ∃ x t, st = .inr (.inl x) :: t ∧ k x t := by
  unfold za_L1 at h
  split at h
  · rename_i x t; exact ⟨x, t, rfl, h⟩
  · exact h.elim
theorem za_L2_spec {st : List za_V} {k : Int64 → Int64 → List za_V → Prop} (h : za_L2 st k) : ∃ x y t, st = .inr (.inl y) :: .inr (.inl x) :: t ∧ k x y t := by
  unfold za_L2 at h
  split at h
  · rename_i y x t; exact ⟨x, y, t, rfl, h⟩
  · exact h.elim
theorem za_LI_spec {st : List za_V} {k : Int64 → Int32 → List za_V → Prop} (h : za_LI st k) : ∃ x y t, st = .inl y :: .inr (.inl x) :: t ∧ k x y t := by
  unfold za_LI at h
  split at h
  · rename_i y x t; exact ⟨x, y, t, rfl, h⟩
  · exact h.elim
theorem za_A1_spec {st : List za_V} {k : za_V → List za_V → Prop} (h : za_A1 st k) : ∃ r t, st = .inr (.inr r) :: t ∧ k (.inr (.inr r)) t := by
  unfold za_A1 at h
  split at h
  · rename_i x t; exact ⟨x, t, rfl, h⟩
  · exact h.elim
theorem za_cvA (ad : Nat → Nat → Nat) (r : (Nat × Nat) ⊕ Nat) : ∃ a : Nat, za_cv ad (.inr (.inr r)) = .ref a := by
  rcases r with q | a
  · exact ⟨_, rfl⟩
  · exact ⟨_, rfl⟩
section ZB
variable {p : Program} {l : Launch} {e : Env} {R : Room} {s : State} {m : MethodId} {args : Array Value} {below : List Frame} {meth : Method} {c : Code} {Q : State → Prop}
variable {Λ : List za_S} {cn : Nat → Nat} {ad : Nat → Nat → Nat} {ca : Nat → ClassId} {D : va_G} {cl : List vw_C} {A : Nat → Prop} {nL : Nat} {cc : ByteArray} {pc nx : Nat} {ls : za_C} {st st' : List za_V} {μ : za_M} {κ : Nat × Nat}
theorem zb_st (k : za_Z p l e R s m args below meth c Λ cn ad ca D cl A nL Q nx ls st' μ κ) (h : ∀ (lc : Array Slot) (H : Heap) (locs : List Loc), W p l e R s m args below meth c H locs κ.1 κ.2 Q (F0 m nx lc (st'.map (za_cv ad))) → W p l e R s m args below meth c H locs κ.1 κ.2 Q (F0 m pc lc (st.map (za_cv ad)))) (hok : za_oks cn st → za_oks cn st') : za_Z p l e R s m args below meth c Λ cn ad ca D cl A nL Q pc ls st μ κ := fun h1 h2 lc H locs h3 h4 h5 => h lc H locs (k (hok h1) h2 lc H locs h3 h4 h5)
theorem zb_ld {v : za_V} {i : Nat} (hv : za_n ls i = some (some v)) (h : ∀ (lc : Array Slot) (H : Heap) (locs : List Loc), lc[i]? = some (.val (za_cv ad v)) → W p l e R s m args below meth c H locs κ.1 κ.2 Q (F0 m nx lc (za_cv ad v :: st.map (za_cv ad))) → W p l e R s m args below meth c H locs κ.1 κ.2 Q (F0 m pc lc (st.map (za_cv ad))))
    (k : za_Z p l e R s m args below meth c Λ cn ad ca D cl A nL Q nx ls (v :: st) μ κ) : za_Z p l e R s m args below meth c Λ cn ad ca D cl A nL Q pc ls st μ κ := fun h1 h2 lc H locs h3 h4 h5 => h lc H locs (h3.at hv) (k ⟨h2 i v hv, h1⟩ h2 lc H locs h3 h4 h5)
theorem zb_br {cd : Jvm.ClassFile.Cond} {x y : Int32} {tgt : Nat} (h : ∀ (lc : Array Slot) (H : Heap) (locs : List Loc), za_br cd x y (W p l e R s m args below meth c H locs κ.1 κ.2 Q (F0 m tgt lc (st'.map (za_cv ad)))) (W p l e R s m args below meth c H locs κ.1 κ.2 Q (F0 m nx lc (st'.map (za_cv ad)))) → W p l e R s m args below meth c H locs κ.1 κ.2 Q (F0 m pc lc (st.map (za_cv ad)))) (hok : za_oks cn st → za_oks cn st')
    (k : za_br cd x y (za_Z p l e R s m args below meth c Λ cn ad ca D cl A nL Q tgt ls st' μ κ) (za_Z p l e R s m args below meth c Λ cn ad ca D cl A nL Q nx ls st' μ κ)) : za_Z p l e R s m args below meth c Λ cn ad ca D cl A nL Q pc ls st μ κ := by
  intro h1 h2 lc H locs h3 h4 h5
  refine h lc H locs ?_
  cases cd <;> exact ⟨fun q => k.1 q (hok h1) h2 lc H locs h3 h4 h5, fun q => k.2 q (hok h1) h2 lc H locs h3 h4 h5⟩
theorem za_br_mono {cd : Jvm.ClassFile.Cond} {x y : Int32} {A1 B1 A2 B2 : Prop} (ha : A1 → A2) (hb : B1 → B2) (h : za_br cd x y A1 B1) : za_br cd x y A2 B2 := by
  cases cd <;> exact ⟨fun q => ha (h.1 q), fun q => hb (h.2 q)⟩
theorem zb_if (hexec : p.tables.exec = Jvm.exec) (hb : c.code = cc) {cd : Jvm.ClassFile.Cond} {x : Int32} {off : Int} {tgt : Nat} (hdg : decode cc pc = .ok (.ifCond cd off, 3)) (ht : (pc : Int) + off = (tgt : Int)) {lc : Array Slot} {H : Heap} {locs : List Loc} {rest : List Value}
    (h : za_br cd x 0 (W p l e R s m args below meth c H locs κ.1 κ.2 Q (F0 m tgt lc rest)) (W p l e R s m args below meth c H locs κ.1 κ.2 Q (F0 m (pc + 3) lc rest))) : W p l e R s m args below meth c H locs κ.1 κ.2 Q (F0 m pc lc (.int x :: rest)) := by
  cases cd
  · exact lv_if_eq hexec hb hdg ht h.1 h.2
  · exact lv_if_ne hexec hb hdg ht h.1 h.2
  · exact lv_if_lt hexec hb hdg ht h.1 h.2
  · exact lv_if_ge hexec hb hdg ht h.1 h.2
  · exact lv_if_gt hexec hb hdg ht h.1 h.2
  · exact lv_if_le hexec hb hdg ht h.1 h.2
theorem zb_icmp (hexec : p.tables.exec = Jvm.exec) (hb : c.code = cc) {cd : Jvm.ClassFile.Cond} {x y : Int32} {off : Int} {tgt : Nat} (hdg : decode cc pc = .ok (.if_icmp cd off, 3)) (ht : (pc : Int) + off = (tgt : Int)) {lc : Array Slot} {H : Heap} {locs : List Loc} {rest : List Value}
    (h : za_br cd x y (W p l e R s m args below meth c H locs κ.1 κ.2 Q (F0 m tgt lc rest)) (W p l e R s m args below meth c H locs κ.1 κ.2 Q (F0 m (pc + 3) lc rest))) : W p l e R s m args below meth c H locs κ.1 κ.2 Q (F0 m pc lc (.int y :: .int x :: rest)) := by
  cases cd
  · exact lv_icmp_eq hexec hb hdg ht h.1 h.2
  · exact lv_icmp_ne hexec hb hdg ht h.1 h.2
  · exact lv_icmp_lt hexec hb hdg ht h.1 h.2
  · exact lv_icmp_ge hexec hb hdg ht h.1 h.2
  · exact lv_icmp_gt hexec hb hdg ht h.1 h.2
  · exact lv_icmp_le hexec hb hdg ht h.1 h.2
/-- stores into locals -/
theorem zb_s1 {i : Nat} {v : za_V} (hv : za_ok cn v) (hst : za_oks cn st → za_oks cn st') (h : ∀ (lc : Array Slot) (H : Heap) (locs : List Loc) (lv : List (Nat × Value)), lv_has lc nL lv → i < nL → (∀ lc' : Array Slot, lv_has lc' nL ((i, za_cv ad v) :: lv.filter (fun q => !(q.1 == i) && !(q.1 + 1 == i && q.2.category == 2))) → W p l e R s m args below meth c H locs κ.1 κ.2 Q (F0 m nx lc' (st'.map (za_cv ad)))) → W p l e R s m args below meth c H locs κ.1 κ.2 Q (F0 m pc lc (st.map (za_cv ad))))
    (k : za_st1 ls i v (fun l1 => za_Z p l e R s m args below meth c Λ cn ad ca D cl A nL Q nx l1 st' μ κ)) : za_Z p l e R s m args below meth c Λ cn ad ca D cl A nL Q pc ls st μ κ := by
  intro h1 h2 lc H locs h3 h4 h5
  obtain ⟨hi, l1, hk, hl, hs⟩ := za_st1_spec k
  exact h lc H locs _ h3.has (by rw [← h3.1]; exact hi) (fun lc' h' => hk (hst h1) (h2.st1 hv hs) lc' H locs (h3.st1 hl hs h') h4 h5)
theorem zb_s2 {i : Nat} {v : za_V} (hv : za_ok cn v) (hst : za_oks cn st → za_oks cn st') (h : ∀ (lc : Array Slot) (H : Heap) (locs : List Loc) (lv : List (Nat × Value)), lv_has lc nL lv → i + 1 < nL → (∀ lc' : Array Slot, lv_has lc' nL ((i, za_cv ad v) :: lv.filter (fun q => !(q.1 == i) && (!(q.1 == i + 1) && !(q.1 + 1 == i && q.2.category == 2)))) → W p l e R s m args below meth c H locs κ.1 κ.2 Q (F0 m nx lc' (st'.map (za_cv ad)))) → W p l e R s m args below meth c H locs κ.1 κ.2 Q (F0 m pc lc (st.map (za_cv ad))))
    (k : za_st2 ls i v (fun l1 => za_Z p l e R s m args below meth c Λ cn ad ca D cl A nL Q nx l1 st' μ κ)) : za_Z p l e R s m args below meth c Λ cn ad ca D cl A nL Q pc ls st μ κ := by
  intro h1 h2 lc H locs h3 h4 h5
  obtain ⟨hi, l1, hk, hl, hs⟩ := za_st2_spec k
  exact h lc H locs _ h3.has (by rw [← h3.1]; exact hi) (fun lc' h' => hk (hst h1) (h2.st2 hv hs) lc' H locs (h3.st2 hl hs h') h4 h5)
theorem zb_inc (hexec : p.tables.exec = Jvm.exec) (hb : c.code = cc) {i : Nat} {n : Int} {x v : Int32} (hdg : decode cc pc = .ok (.iinc i n, 3)) (hn : Int32.ofInt n = v) (hx : za_n ls i = some (some (.inl x)))
    (k : za_st1 ls i (za_i (x + v)) (fun l1 => za_Z p l e R s m args below meth c Λ cn ad ca D cl A nL Q (pc + 3) l1 st μ κ)) : za_Z p l e R s m args below meth c Λ cn ad ca D cl A nL Q pc ls st μ κ := by
  intro h1 h2 lc H locs h3 h4 h5
  obtain ⟨hi, l1, hk, hl, hs⟩ := za_st1_spec k
  obtain ⟨k0, hk0⟩ := List.getElem?_of_mem (za_lv_mem (ad := ad) (ls := ls) (i := i) (v := .inl x) (by rw [← za_n_eq]; exact hx))
  exact lv_iinc (v := x + v) hexec hb hdg h3.has hk0 (by rw [hn]) (by rw [← h3.1]; exact hi) rfl (fun lc' h' => hk h1 (h2.st1 (v := za_i (x + v)) trivial hs) lc' H locs (h3.st1 (v := za_i (x + v)) hl hs h') h4 h5)
end ZB
/-! cells -/
/-- the layout is closed: what a cell names is there -/
def za_wf (Λ : List za_S) (cn : Nat → Nat) : Prop := ∀ (b : Nat) (sh : za_S), za_n Λ b = some sh →
  (sh.1 = 4 → ∀ (f : Nat) (q : Nat × Nat × Nat), za_n sh.2.2 f = some q → (q.1 = 1 → q.2.2 < cn q.2.1) ∧ (q.1 = 2 → cn b ≤ cn q.2.1)) ∧ (sh.1 = 3 → ∀ (q : Nat × Nat × Nat) (r : List (Nat × Nat × Nat)), sh.2.2 = q :: r → sh.2.1 * cn b ≤ cn q.1)
theorem za_fs_at (ad : Nat → Nat → Nat) (μ : za_M) (b j : Nat) : ∀ (fs : List (Nat × Nat × Nat)) (f0 f : Nat), (za_fs ad μ b j f0 fs)[f]? = (za_n fs f).map (za_fv ad μ b j (f0 + f))
  | [], _, _ => by simp [za_fs, za_n]
  | q :: t, f0, 0 => by simp [za_fs, za_n]
  | q :: t, f0, f + 1 => by
    simp only [za_fs, List.getElem?_cons_succ, za_n]
    rw [za_fs_at ad μ b j t (f0 + 1) f, show f0 + 1 + f = f0 + (f + 1) by omega]
theorem za_fs_len (ad : Nat → Nat → Nat) (μ : za_M) (b j : Nat) : ∀ (fs : List (Nat × Nat × Nat)) (f0 : Nat), (za_fs ad μ b j f0 fs).length = fs.length
  | [], _ => rfl
  | _ :: t, f0 => by simp [za_fs, za_fs_len ad μ b j t (f0 + 1)]
theorem za_ws_at {Λ : List za_S} {cn : Nat → Nat} (ad : Nat → Nat → Nat) (ca : Nat → ClassId) (μ : za_M) {b j : Nat} {sh : za_S} (hb : za_n Λ b = some sh) (hj : j < cn b) : ∃ q0 : Nat, (za_ps cn Λ.length)[q0]? = some (b, j) ∧ (za_ws Λ cn ad ca μ)[q0]? = some (ad b j, za_en Λ ad ca μ b j) := by
  have hlt : b < Λ.length := by rw [za_n_eq] at hb; exact (List.getElem?_eq_some_iff.mp hb).1
  obtain ⟨q0, hq⟩ := List.getElem?_of_mem (za_ps_mem.mpr (show (b, j).1 < Λ.length ∧ (b, j).2 < cn (b, j).1 from ⟨hlt, hj⟩))
  exact ⟨q0, hq, by rw [za_ws, List.getElem?_map, hq]; rfl⟩
/-- only the cell (b, j) is another -/
theorem za_ws_set {Λ : List za_S} {cn : Nat → Nat} {ad : Nat → Nat → Nat} {ca : Nat → ClassId} {μ μ' : za_M} {b j q0 : Nat} {y : va_E} (hq : (za_ps cn Λ.length)[q0]? = some (b, j)) (hy : za_en Λ ad ca μ' b j = y) (ho : ∀ b' j', ¬ (b' = b ∧ j' = j) → za_en Λ ad ca μ' b' j' = za_en Λ ad ca μ b' j') : (za_ws Λ cn ad ca μ).set q0 (ad b j, y) = za_ws Λ cn ad ca μ' := by
  refine za_map_set za_ps_nodup hq (by rw [← hy]) (fun q hne => ?_)
  rw [ho q.1 q.2 (fun h => hne (Prod.ext h.1 h.2))]
theorem za_u_ne {α : Type} {f : Nat → Nat → Nat → α} {b j i b' j' : Nat} {x : α} (h : ¬ (b' = b ∧ j' = j)) : za_u f b j i x b' j' = f b' j' := by
  funext i'
  simp only [za_u]
  rw [if_neg (fun q => h ⟨q.1, q.2.1⟩)]
theorem za_fs_congr {ad : Nat → Nat → Nat} {μ μ' : za_M} {b j : Nat} (h : μ'.1 b j = μ.1 b j) : ∀ (fs : List (Nat × Nat × Nat)) (f0 : Nat), za_fs ad μ' b j f0 fs = za_fs ad μ b j f0 fs
  | [], _ => rfl
  | q :: t, f0 => by
    simp only [za_fs, za_fs_congr h t (f0 + 1), List.cons.injEq, and_true]
    unfold za_fv
    rw [h]
theorem za_en_ne {Λ : List za_S} {ad : Nat → Nat → Nat} {ca : Nat → ClassId} {μ μ' : za_M} {b j : Nat} (h1 : μ'.1 b j = μ.1 b j) (h2 : μ'.2 b j = μ.2 b j) : za_en Λ ad ca μ' b j = za_en Λ ad ca μ b j := by
  unfold za_en
  rw [h1, h2]
  split <;> first | rfl | (rw [za_fs_congr h1])
theorem za_u_at (f : Nat → Nat → Nat → Int32) (b j i : Nat) (x : Int32) : za_u f b j i x b j = upd (f b j) i x := by
  funext i'
  by_cases h : i' = i <;> simp [za_u, upd, h]
theorem za_u_atL (f : Nat → Nat → Nat → Int64) (b j i : Nat) (x : Int64) : za_u f b j i x b j = vp_updL (f b j) i x := by
  funext i'
  by_cases h : i' = i <;> simp [za_u, vp_updL, h]
theorem za_fs_set (ad : Nat → Nat → Nat) (μ : za_M) (b j f : Nat) (x : Int32) (fs : List (Nat × Nat × Nat)) {q : Nat × Nat × Nat} (hq : za_n fs f = some q) (h0 : q.1 = 0) : (za_fs ad μ b j 0 fs).set f (.int x) = za_fs ad (za_u μ.1 b j f x, μ.2) b j 0 fs := by
  refine List.ext_getElem? fun i => ?_
  rw [List.getElem?_set, za_fs_at, za_fs_at, za_fs_len]
  by_cases h : f = i
  · subst h
    have hlt : f < fs.length := by rw [za_n_eq] at hq; exact (List.getElem?_eq_some_iff.mp hq).1
    obtain ⟨q1, q2, q3⟩ := q
    simp only at h0
    subst h0
    rw [if_pos rfl, if_pos hlt, hq]
    simp [za_fv, za_u]
  · rw [if_neg h]
    congr 1
    funext q
    unfold za_fv
    simp only [Nat.zero_add, za_u]
    have h' : ¬ i = f := fun e => h e.symm
    simp [h']
def za_ty (Λ : List za_S) (ca : Nat → ClassId) (tys : List (ClassId × FieldType)) : Prop := ∀ (b : Nat) (sh : za_S), za_n Λ b = some sh → (sh.1 = 0 → ∃ t : Nat, tys[t]? = some (ca b, .int)) ∧ (sh.1 = 1 → ∃ t : Nat, tys[t]? = some (ca b, .boolean)) ∧ (sh.1 = 2 → ∃ t : Nat, tys[t]? = some (ca b, .long)) ∧ (sh.1 = 3 → ∃ (t : Nat) (ty : FieldType), tys[t]? = some (ca b, ty) ∧ ty.isReference = true)
theorem za_ix_lt {j n i N M : Nat} (hj : j < N) (hi : i < n) (h : n * N ≤ M) : za_ix j n i < M := by
  cases j with
  | zero =>
    have : n * 1 ≤ n * N := Nat.mul_le_mul_left n (by omega)
    show i < M
    omega
  | succ j =>
    show n * (j + 1) + i < M
    have : n * (j + 1 + 1) ≤ n * N := Nat.mul_le_mul_left n (by omega)
    rw [Nat.mul_add n (j + 1) 1] at this
    omega
theorem za_vp_lt {i : Int32} {n : Nat} (h : vp_in i n) : i.toNatClampNeg < n := Nat.not_le.mp fun q => h (Or.inr q)
section ZC
variable {p : Program} {l : Launch} {e : Env} {R : Room} {s : State} {m : MethodId} {args : Array Value} {below : List Frame} {meth : Method} {c : Code} {Q : State → Prop}
variable {Λ : List za_S} {cn : Nat → Nat} {ad : Nat → Nat → Nat} {ca : Nat → ClassId} {D : va_G} {cl : List vw_C} {A : Nat → Prop} {nL : Nat} {cc : ByteArray} {pc nx : Nat} {ls : za_C} {st st' : List za_V} {μ : za_M} {κ : Nat × Nat} {tys : List (ClassId × FieldType)} {X : za_X}
theorem zc_get (hexec : p.tables.exec = Jvm.exec) (hb : c.code = cc) (hK : va_K D cl tys s) (hwf : za_wf Λ cn) {own ref C : String} {T : u_T} {N ci index f : Nat} {Ts : List Cond} (hts : ∀ w ∈ Ts, w.before args s = true) (hin : ∀ w ∈ u_ws C T N, w ∈ Ts) (hown : s.vm.findClass own = some m.cls) (hc : cl[ci]? = some (C, T, N)) (hf : f < N) (hlink : (Cond.fieldLink own index ref (T f).2.1 (T f).2.2.1).before args s = true) (hsame : ∀ x, s.fieldFound? (T f).1 (T f).2.1 (T f).2.2.1 = some x → s.fieldFound? ref (T f).2.1 (T f).2.2.1 = some x) (hdg : decode cc pc = .ok (.getfield index, 3))
    (k : za_get Λ μ ci f st (fun v t => za_Z p l e R s m args below meth c Λ cn ad ca D cl A nL Q (pc + 3) ls (v :: t) μ κ)) : za_Z p l e R s m args below meth c Λ cn ad ca D cl A nL Q pc ls st μ κ := by
  unfold za_get at k
  split at k
  · rename_i b j t
    unfold za_gf at k
    split at k
    · rename_i c' fs hΛ
      intro h1 h2 lc H locs h3 h4 h5
      obtain ⟨q0, -, hq⟩ := za_ws_at ad ca μ hΛ (show j < cn b from h1.1)
      have hen : za_en Λ ad ca μ b j = .inr (c', za_fs ad μ b j 0 fs) := by simp only [za_en, hΛ]
      rw [hen] at hq
      split at k
      · rename_i a1 a2 hbq hfq
        have hcc : c' = ci := Nat.eq_of_beq_eq_true hbq
        subst hcc
        exact va_get hexec hb hts hin hown hK h4 q0 hq hc f hf hlink hsame (v := .int (μ.1 b j f)) (by rw [za_fs_at, hfq]; simp [za_fv]) hdg (k ⟨trivial, h1.2⟩ h2 lc H locs h3 h4 h5)
      · rename_i b' j' hbq hfq
        have hcc : c' = ci := Nat.eq_of_beq_eq_true hbq
        subst hcc
        exact va_get hexec hb hts hin hown hK h4 q0 hq hc f hf hlink hsame (v := .ref (ad b' j')) (by rw [za_fs_at, hfq]; simp [za_fv]) hdg (k ⟨((hwf b _ hΛ).1 rfl f _ hfq).1 rfl, h1.2⟩ h2 lc H locs h3 h4 h5)
      · rename_i b' a1 hbq hfq
        have hcc : c' = ci := Nat.eq_of_beq_eq_true hbq
        subst hcc
        exact va_get hexec hb hts hin hown hK h4 q0 hq hc f hf hlink hsame (v := .ref (ad b' j)) (by rw [za_fs_at, hfq]; simp [za_fv]) hdg (k ⟨Nat.lt_of_lt_of_le h1.1 (((hwf b _ hΛ).1 rfl f _ hfq).2 rfl), h1.2⟩ h2 lc H locs h3 h4 h5)
      · exact k.elim
    · exact k.elim
  · exact k.elim
theorem zc_ald (hexec : p.tables.exec = Jvm.exec) (hb : c.code = cc) (hK : va_K D cl tys s) (hwf : za_wf Λ cn) (hty : za_ty Λ ca tys) (hX : X.1 = true → va_X X.2.1 X.2.2.1 X.2.2.2 s s.heap ∧ X.2.1 < s.heap.size ∧ ¬ A X.2.1) {kd : Nat} {ins : Instr} (hdg : decode cc pc = .ok (ins, 1)) (hins : (kd = 0 ∧ ins = .iaload) ∨ (kd = 1 ∧ ins = .baload) ∨ (kd = 2 ∧ ins = .laload) ∨ (kd = 3 ∧ ins = .aaload))
    (k : za_ald Λ X μ kd st (fun v t => za_Z p l e R s m args below meth c Λ cn ad ca D cl A nL Q (pc + 1) ls (v :: t) μ κ)) : za_Z p l e R s m args below meth c Λ cn ad ca D cl A nL Q pc ls st μ κ := by
  unfold za_ald at k
  split at k
  · rename_i i b j t
    unfold za_ia at k
    split at k
    · rename_i n a1 hΛ
      split at k
      · rcases hins with ⟨-, rfl⟩ | ⟨h0, -⟩ | ⟨h0, -⟩ | ⟨h0, -⟩
        · intro h1 h2 lc H locs h3 h4 h5
          obtain ⟨q0, -, hq⟩ := za_ws_at ad ca μ hΛ (show j < cn b from h1.2.1)
          have hen : za_en Λ ad ca μ b j = .inl (ca b, n, .inl (μ.1 b j)) := by simp only [za_en, hΛ]
          rw [hen] at hq
          obtain ⟨t0, ht0⟩ := (hty b _ hΛ).1 rfl
          exact va_iald hexec hb hK h4 q0 t0 hq ht0 k.1 hdg (k.2 ⟨trivial, h1.2.2⟩ h2 lc H locs h3 h4 h5)
        · cases h0
        · cases h0
        · cases h0
      · exact k.elim
    · rename_i n a1 hΛ
      split at k
      · rcases hins with ⟨h0, -⟩ | ⟨-, rfl⟩ | ⟨h0, -⟩ | ⟨h0, -⟩
        · cases h0
        · intro h1 h2 lc H locs h3 h4 h5
          obtain ⟨q0, -, hq⟩ := za_ws_at ad ca μ hΛ (show j < cn b from h1.2.1)
          have hen : za_en Λ ad ca μ b j = .inl (ca b, n, .inl (μ.1 b j)) := by simp only [za_en, hΛ]
          rw [hen] at hq
          obtain ⟨t0, ht0⟩ := (hty b _ hΛ).2.1 rfl
          exact va_zald hexec hb hK h4 q0 t0 hq ht0 k.1 hdg (k.2 ⟨trivial, h1.2.2⟩ h2 lc H locs h3 h4 h5)
        · cases h0
        · cases h0
      · exact k.elim
    · rename_i n a1 hΛ
      split at k
      · rcases hins with ⟨h0, -⟩ | ⟨h0, -⟩ | ⟨-, rfl⟩ | ⟨h0, -⟩
        · cases h0
        · cases h0
        · intro h1 h2 lc H locs h3 h4 h5
          obtain ⟨q0, -, hq⟩ := za_ws_at ad ca μ hΛ (show j < cn b from h1.2.1)
          have hen : za_en Λ ad ca μ b j = .inl (ca b, n, .inr (.inl (μ.2 b j))) := by simp only [za_en, hΛ]
          rw [hen] at hq
          obtain ⟨t0, ht0⟩ := (hty b _ hΛ).2.2.1 rfl
          exact va_lald hexec hb hK h4 q0 t0 hq ht0 k.1 hdg (k.2 ⟨trivial, h1.2.2⟩ h2 lc H locs h3 h4 h5)
        · cases h0
      · exact k.elim
    · rename_i n b' a1 a2 a3 hΛ
      split at k
      · rcases hins with ⟨h0, -⟩ | ⟨h0, -⟩ | ⟨h0, -⟩ | ⟨-, rfl⟩
        · cases h0
        · cases h0
        · cases h0
        · intro h1 h2 lc H locs h3 h4 h5
          obtain ⟨q0, -, hq⟩ := za_ws_at ad ca μ hΛ (show j < cn b from h1.2.1)
          have hen : za_en Λ ad ca μ b j = .inl (ca b, n, .inr (.inr (.inr (.inr (fun i => some (ad b' (za_ix j n i))))))) := by simp only [za_en, hΛ]
          rw [hen] at hq
          obtain ⟨t0, ty, ht0, hrf⟩ := (hty b _ hΛ).2.2.2 rfl
          have hlt := za_vp_lt k.1
          have hcell := h4 q0 _ hq
          refine W.aald (v := .ref (ad b' (za_ix j n i.toNatClampNeg))) (ty := ty) hexec hb hcell ((hK.2 t0 _ ht0).1 n _) hrf (fun q => by cases q) (by show ¬ (i < 0 ∨ (arrV _ _ _).slots.size ≤ _); rw [arrV_size]; exact k.1) (by show (arrV _ _ _).slots[_]? = _; rw [arrV_read _ _ hlt]; rfl) rfl rfl hdg ?_
          exact k.2 ⟨za_ix_lt h1.2.1 hlt ((hwf b _ hΛ).2 rfl _ _ rfl), h1.2.2⟩ h2 lc H locs h3 h4 h5
      · exact k.elim
    · exact k.elim
  · rename_i i a t
    obtain ⟨hf, h0, ha, hi, k⟩ := k
    obtain ⟨hx1, hx2, hx3⟩ := hX hf
    rcases hins with ⟨-, rfl⟩ | ⟨h9, -⟩ | ⟨h9, -⟩ | ⟨h9, -⟩
    · subst ha
      intro h1 h2 lc H locs h3 h4 h5
      exact va_sld hexec hb hx1 hx2 hx3 h5 hi hdg (k ⟨trivial, h1.2.2⟩ h2 lc H locs h3 h4 h5)
    · omega
    · omega
    · omega
  · exact k.elim
end ZC
