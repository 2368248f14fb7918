/-! the row copied: System.arraycopy between two rows of ints -/
theorem za_wt_cat (ad : Nat → Nat → Nat) : ∀ t : List za_V, ((t.map (za_cv ad)).map fun v => v.category).sum = za_wt t
  | [] => rfl
  | .inl x :: t => by
    simp only [List.map_cons, List.sum_cons, za_wt_cat ad t]
    rfl
  | .inr (.inl x) :: t => by
    simp only [List.map_cons, List.sum_cons, za_wt_cat ad t]
    rfl
  | .inr (.inr (.inl q)) :: t => by
    simp only [List.map_cons, List.sum_cons, za_wt_cat ad t]
    rfl
  | .inr (.inr (.inr a)) :: t => by
    simp only [List.map_cons, List.sum_cons, za_wt_cat ad t]
    rfl
theorem za_ur_at {α : Type} (f : Nat → Nat → Nat → α) (b j : Nat) (r : Nat → α) : za_ur f b j r b j = r := by
  simp [za_ur]
theorem za_ur_ne {α : Type} {f : Nat → Nat → Nat → α} {b j b' j' : Nat} {r : Nat → α} (h : ¬ (b' = b ∧ j' = j)) : za_ur f b j r b' j' = f b' j' := by
  simp only [za_ur]
  rw [if_neg h]
section ZF
variable {p : Program} {l : Launch} {e : Env} {R : Room} {s : State} {m : MethodId} {args : Array Value} {below : List Frame} {meth : Method} {c : Code} {Q : State → Prop}
variable {Λ : List za_S} {cn : Nat → Nat} {ad : Nat → Nat → Nat} {ca : Nat → ClassId} {D : va_G} {cl : List vw_C} {A : Nat → Prop} {nL : Nat} {cc : ByteArray} {pc nx : Nat} {ls : za_C} {st st' : List za_V} {μ : za_M} {κ : Nat × Nat} {tys : List (ClassId × FieldType)}
theorem zf_cp (hexec : p.tables.exec = Jvm.exec) (hb : c.code = cc) (hml : c.maxLocals = nL) (hK : va_K D cl tys s) (hD : ∀ μ : za_M, va_D A (za_ws Λ cn ad ca μ)) (hty : za_ty Λ ca tys) {own : String} {index : Nat} (hown : s.vm.findClass own = some m.cls) (hlink : (Cond.methodLink own index arraycopyName).before args s = true) (hnat : (Cond.native arraycopyName).before args s = true) (hstat : (Cond.static arraycopyName).before args s = true) (hini : (Cond.initialized "java/lang/System").before args s = true)
    (hframes : 1 ≤ R.frames) (hlocals : 8 + (nativeFrameWords "java/lang/System" "arraycopy" 5 + 11) ≤ R.locals) (hdg : decode cc pc = .ok (.invokestatic index, 3))
    (k : za_cp Λ μ st (fun μ1 t => za_Z p l e R s m args below meth c Λ cn ad ca D cl A nL Q (pc + 3) ls t μ1 κ)) : za_Z p l e R s m args below meth c Λ cn ad ca D cl A nL Q pc ls st μ κ := by
  unfold za_cp at k
  split at k
  · rename_i n dp bd jd sp bs js t
    split at k
    · rename_i ns a1 nd a2 hΛs hΛd
      obtain ⟨k1, k2, k3, k4, k5, k6, k⟩ := k
      intro h1 h2 lc H locs h3 h4 h5
      obtain ⟨q0, hp0, hq0⟩ := za_ws_at ad ca μ hΛs (show js < cn bs from h1.2.2.2.2.1)
      obtain ⟨q1, hp1, hq1⟩ := za_ws_at ad ca μ hΛd (show jd < cn bd from h1.2.2.1)
      have hen0 : za_en Λ ad ca μ bs js = .inl (ca bs, ns, .inl (μ.1 bs js)) := by simp only [za_en, hΛs]
      have hen1 : ∀ ν : za_M, za_en Λ ad ca ν bd jd = .inl (ca bd, nd, .inl (ν.1 bd jd)) := by intro ν; simp only [za_en, hΛd]
      rw [hen0] at hq0
      rw [hen1] at hq1
      obtain ⟨t0, ht0⟩ := (hty bs _ hΛs).1 rfl
      obtain ⟨t1, ht1⟩ := (hty bd _ hΛd).1 rfl
      refine va_copyi hexec hb (hml.trans h3.2.1.symm) hown hlink hnat hstat hini hK h4 (hD μ) h5 q0 q1 t0 t1 hq0 hq1 ht0 ht1 rfl k1 k2 k3 k4 k5 (fun _ _ => rfl) hframes (by rw [za_wt_cat]; omega) hdg (fun H1 locs1 hP1 _ hS1 => ?_)
      rw [za_ws_set (μ := μ) (ad := ad) (ca := ca) (μ' := (za_ur μ.1 bd jd (va_cpy (μ.1 bs js) (μ.1 bd jd) sp.toNatClampNeg dp.toNatClampNeg n.toNatClampNeg), μ.2)) hp1 (by rw [hen1]; simp only [za_ur_at]) (fun b' j' h => za_en_ne (za_ur_ne h) rfl)] at hP1
      exact k h1.2.2.2.2.2 h2 lc H1 locs1 h3 hP1 hS1
    · exact k.elim
  · exact k.elim
end ZF
