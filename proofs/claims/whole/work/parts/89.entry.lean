/-! THE LAW'S ENTRY: the words, the classes, what throwing asks; a world in another order -/
theorem ze_words {b : Nat} {s : State} (hts : ∀ w ∈ lw_tbl, w.before #[Value.ref b] s = true) : zk_W zt s := by
  intro w hw a
  obtain ⟨h1, hg⟩ := List.mem_filter.mp (show w ∈ lw_tbl.filter zt_ok from hw)
  have h := hts w h1
  have hg : zk_ok w = true := hg
  unfold zk_ok at hg
  rw [Bool.or_eq_true] at hg
  rcases hg with hg | hg
  · exact word_at (State.WarmedH.refl s) (good_of_word hg) h
  · split at hg
    · exact h
    · exact h
    · exact h
    · exact h
    · cases hg
theorem ze_O {b : Nat} {s : State} (hts : ∀ w ∈ lw_tbl, w.before #[Value.ref b] s = true) (hm : ∀ ty ∈ zj_OT, Cond.arrayOver ty ∈ lw_tbl) : zj_O s := fun ty hty a => by
  have h := hts _ (hm ty hty)
  exact h
theorem ze_Zs {args : Array Value} {s : State} {n d : String} {A0 : Nat → Prop} (hl : (Cond.laysStatic "java/lang/Throwable" n d).before args s = true) (h : (Cond.isRef (.static "java/lang/Throwable" n d)).before args s = true) (hA : ∀ a : Nat, a < s.heap.size → ¬ A0 a) : zs_Z n d A0 s := by
  obtain ⟨c, k, i, f, a, cell, hc, hi, hst, ha, hcell, hs, hcls, hlt, hty⟩ := Cond.laysStatic_spec hl
  cases hv : (Term.static "java/lang/Throwable" n d).eval args s none [] s with
  | none => simp [Cond.before, Cond.holds, Cond.value, hv] at h
  | some w =>
    simp only [Cond.before, Cond.holds, Cond.value, hv] at h
    obtain ⟨hst', a', cell', ha', hcell', -, hslot⟩ := Term.static_spec hi hv
    cases ha.symm.trans ha'
    cases hcell.symm.trans hcell'
    refine ⟨c, k, i, f, a, cell, w, hc, hi, hst, ha, hcell, hs, hcls, hlt, hty, hslot, ?_, hA a (Array.getElem?_eq_some_iff.mp hcell).1⟩
    cases w with
    | null => exact Or.inl rfl
    | ref t => exact Or.inr ⟨t, rfl⟩
    | _ => simp at h
theorem ze_cast {args : Array Value} {s : State} {x y : String} {cx cy : ClassId} (h : (Cond.not (Cond.castable x y)).before args s = true) (hx : s.vm.findClass x = some cx) (hy : s.vm.findClass y = some cy) : s.vm.assignable cx cy = false := by
  simp only [Cond.before, Cond.holds, Cond.value, hx, hy] at h
  simpa using h
theorem ze_K {b : Nat} {s : State} (hW : zk_W zt s) (hO : zj_O s) : ∃ (dC : Nat → ClassId) (dI : Nat → Nat → Nat) (cI cZ cJ cII cJJ cB : ClassId), va_K (dC, dI) zt_cl (zj_tys cI cZ cJ cII cJJ cB) s := by
  have hts : ∀ w ∈ zt_WS, w.before #[Value.ref b] s = true := fun w hw => hW w hw _
  have kn : ∀ (ci : Nat) (q : vw_C), zt_cl[ci]? = some q → Cond.instantiable q.1 q.2.2 ∈ zt_WS → ∃ (c : ClassId) (i : Nat → Nat), u_Kn s q.1 q.2.1 q.2.2 c i := fun ci q hc hi => u_known hts (zj_in hc) (hts _ hi)
  obtain ⟨c0, i0, h0⟩ := kn 0 _ rfl zv_in_B
  obtain ⟨c1, i1, h1⟩ := kn 1 _ rfl zv_in_G
  obtain ⟨c2, i2, h2⟩ := kn 2 _ rfl zv_in_N
  obtain ⟨c3, i3, h3⟩ := kn 3 _ rfl zv_in_R
  obtain ⟨c4, i4, h4⟩ := kn 4 _ rfl zv_in_T
  obtain ⟨c5, i5, h5⟩ := kn 5 _ rfl zv_in_A
  obtain ⟨c6, i6, h6⟩ := kn 6 _ rfl zv_in_M
  have prim : ∀ ty : FieldType, (∀ C, ty ≠ .object C) → Cond.arrayClass ty ∈ zt_WS → ∃ c : ClassId, ArrOfT s c ty ∧ va_RA s c ty := fun ty hn hm => by
    obtain ⟨c, k, comp, g1, g2, g3⟩ := Cond.arrayClass_spec (hts _ hm)
    refine ⟨c, fun n z => ⟨fun q h => (by cases h), k, g2, comp, g3⟩, ?_⟩
    cases ty with
    | object C => exact absurd rfl (hn C)
    | _ => exact g1
  have arr : ∀ t : FieldType, FieldType.array t ∈ zj_OT → ∃ c : ClassId, ArrOfT s c (.array t) ∧ va_RA s c (.array t) := fun t hm => by
    obtain ⟨comp, c, k, g1, g2, g3, g4⟩ := Cond.arrayOver_specA (hO _ hm #[])
    exact ⟨c, fun n z => ⟨fun q h => (by cases h), k, g2, comp, g3⟩, g4⟩
  obtain ⟨cI, a0⟩ := prim .int (fun C h => by cases h) zv_ac_int
  obtain ⟨cZ, a1⟩ := prim .boolean (fun C h => by cases h) zv_ac_boolean
  obtain ⟨cJ, a2⟩ := prim .long (fun C h => by cases h) zv_ac_long
  obtain ⟨cII, a3⟩ := arr .int (by unfold zj_OT; simp)
  obtain ⟨cJJ, a4⟩ := arr .long (by unfold zj_OT; simp)
  obtain ⟨cB, a5⟩ : ∃ c : ClassId, ArrOfT s c (.object "AttributeKinds$Board") ∧ va_RA s c (.object "AttributeKinds$Board") := by
    obtain ⟨comp, c, k, g1, -, g2, g3, g4⟩ := Cond.arrayOver_spec (hO (.object "AttributeKinds$Board") (by unfold zj_OT; simp) #[])
    exact ⟨c, fun n z => ⟨fun q h => (by cases h), k, g2, comp, g3⟩, k, comp, g2, g3, g1, g4⟩
  refine ⟨fun k => [c0, c1, c2, c3, c4, c5, c6].getD k c0, fun k => [i0, i1, i2, i3, i4, i5, i6].getD k i0, cI, cZ, cJ, cII, cJJ, cB, fun ci q hq => ?_, fun k q hq => ?_⟩
  · match ci, hq with
    | 0, hq => cases hq; exact h0
    | 1, hq => cases hq; exact h1
    | 2, hq => cases hq; exact h2
    | 3, hq => cases hq; exact h3
    | 4, hq => cases hq; exact h4
    | 5, hq => cases hq; exact h5
    | 6, hq => cases hq; exact h6
    | k + 7, hq => simp [zt_cl] at hq
  · match k, hq with
    | 0, hq => cases hq; exact a0
    | 1, hq => cases hq; exact a1
    | 2, hq => cases hq; exact a2
    | 3, hq => cases hq; exact a3
    | 4, hq => cases hq; exact a4
    | 5, hq => cases hq; exact a5
    | k + 6, hq => simp at hq
/-- the same cells in another order -/
theorem ze_order {α : Type} {f : α → Nat × va_E} {D : va_G} {cl : List vw_C} {H : Heap} {l1 l2 : List α} (hs : ∀ q ∈ l2, q ∈ l1) (h : va_P D cl (l1.map f) H) : va_P D cl (l2.map f) H := by
  intro k q hk
  rw [List.getElem?_map] at hk
  cases hl : l2[k]? with
  | none => rw [hl] at hk; cases hk
  | some x =>
    rw [hl] at hk
    cases hk
    obtain ⟨j, hj⟩ := List.getElem?_of_mem (hs x (List.mem_of_getElem? hl))
    exact h j (f x) (by rw [List.getElem?_map, hj]; rfl)
theorem ze_orderD {α : Type} {f g : α → Nat × va_E} {A : Nat → Prop} {l1 l2 : List α} (hs : ∀ q ∈ l2, q ∈ l1) (hn : l2.Nodup) (hfg : ∀ q, (f q).1 = (g q).1) (h : va_D A (l1.map f)) : va_D A (l2.map g) := by
  have at1 : ∀ x ∈ l2, ∃ j, (l1.map f)[j]? = some (f x) ∧ l1[j]? = some x := fun x hx => by
    obtain ⟨j, hj⟩ := List.getElem?_of_mem (hs x hx)
    exact ⟨j, by rw [List.getElem?_map, hj]; rfl, hj⟩
  have at2 : ∀ (k : Nat) (q : Nat × va_E), (l2.map g)[k]? = some q → ∃ x, l2[k]? = some x ∧ q = g x := fun k q hk => by
    rw [List.getElem?_map] at hk
    cases hl : l2[k]? with
    | none => rw [hl] at hk; cases hk
    | some x => rw [hl] at hk; cases hk; exact ⟨x, rfl, rfl⟩
  refine ⟨fun i j p q hi hj hpq => ?_, fun k q hk => ?_⟩
  · obtain ⟨x, hx, rfl⟩ := at2 i p hi
    obtain ⟨y, hy, rfl⟩ := at2 j q hj
    obtain ⟨i1, e1, e2⟩ := at1 x (List.mem_of_getElem? hx)
    obtain ⟨j1, e3, e4⟩ := at1 y (List.mem_of_getElem? hy)
    have hij := h.1 i1 j1 _ _ e1 e3 (by rw [hfg, hfg]; exact hpq)
    subst hij
    have hxy : x = y := Option.some.inj (e2.symm.trans e4)
    subst hxy
    exact (List.getElem?_inj (List.getElem?_eq_some_iff.mp hx).1 hn).mp (hx.trans hy.symm)
  · obtain ⟨x, hx, rfl⟩ := at2 k q hk
    obtain ⟨i1, e1, e2⟩ := at1 x (List.mem_of_getElem? hx)
    rw [← hfg]
    exact h.2 i1 _ e1
