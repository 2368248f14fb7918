/-! writes -/
theorem za_nar {x : Int32} (h : x = 0 ∨ x = 1) : vp_nar .boolean x = x := by
  rcases h with rfl | rfl <;> rfl
theorem za_narF {x : Int32} (h : x = 0 ∨ x = 1) : narrow .boolean (.int x) = .int x ∧ fits .boolean (.int x) = true := by
  rcases h with rfl | rfl <;> exact ⟨rfl, rfl⟩
section ZD
variable {p : Program} {l : Launch} {e : Env} {R : Room} {s : State} {m : MethodId} {args : Array Value} {below : List Frame} {meth : Method} {c : Code} {Q : State → Prop}
variable {Λ : List za_S} {cn : Nat → Nat} {ad : Nat → Nat → Nat} {ca : Nat → ClassId} {D : va_G} {cl : List vw_C} {A : Nat → Prop} {nL : Nat} {cc : ByteArray} {pc nx : Nat} {ls : za_C} {st st' : List za_V} {μ : za_M} {κ : Nat × Nat} {tys : List (ClassId × FieldType)} {X : za_X}
theorem zd_ast (hexec : p.tables.exec = Jvm.exec) (hb : c.code = cc) (hK : va_K D cl tys s) (hD : ∀ μ : za_M, va_D A (za_ws Λ cn ad ca μ)) (hty : za_ty Λ ca tys) {kd : Nat} {ins : Instr} (hdg : decode cc pc = .ok (ins, 1)) (hins : (kd = 0 ∧ ins = .iastore) ∨ (kd = 1 ∧ ins = .bastore) ∨ (kd = 2 ∧ ins = .lastore))
    (k : za_ast Λ μ kd st (fun μ1 t => za_Z p l e R s m args below meth c Λ cn ad ca D cl A nL Q (pc + 1) ls t μ1 κ)) : za_Z p l e R s m args below meth c Λ cn ad ca D cl A nL Q pc ls st μ κ := by
  unfold za_ast at k
  split at k
  · rename_i x i b j t
    unfold za_is at k
    split at k
    · rename_i n a1 hΛ
      split at k
      · rcases hins with ⟨-, rfl⟩ | ⟨h0, -⟩ | ⟨h0, -⟩
        · intro h1 h2 lc H locs h3 h4 h5
          obtain ⟨q0, hp0, hq⟩ := za_ws_at ad ca μ hΛ (show j < cn b from h1.2.2.1)
          have hen : ∀ ν : za_M, za_en Λ ad ca ν b j = .inl (ca b, n, .inl (ν.1 b j)) := by intro ν; simp only [za_en, hΛ]
          rw [hen] at hq
          obtain ⟨t0, ht0⟩ := (hty b _ hΛ).1 rfl
          refine va_iast hexec hb hK h4 (hD μ) h5 q0 t0 hq ht0 k.1 hdg (fun H1 locs1 hP1 _ hS1 => ?_)
          rw [za_ws_set (μ := μ) (ad := ad) (ca := ca) (μ' := (za_u μ.1 b j i.toNatClampNeg x, μ.2)) hp0 (by rw [hen]; simp only [za_u_at]) (fun b' j' h => za_en_ne (za_u_ne h) rfl)] at hP1
          exact k.2 h1.2.2.2 h2 lc H1 locs1 h3 hP1 hS1
        · cases h0
        · cases h0
      · exact k.elim
    · rename_i n a1 hΛ
      split at k
      · rcases hins with ⟨h0, -⟩ | ⟨-, rfl⟩ | ⟨h0, -⟩
        · cases h0
        · intro h1 h2 lc H locs h3 h4 h5
          obtain ⟨q0, hp0, hq⟩ := za_ws_at ad ca μ hΛ (show j < cn b from h1.2.2.1)
          have hen : ∀ ν : za_M, za_en Λ ad ca ν b j = .inl (ca b, n, .inl (ν.1 b j)) := by intro ν; simp only [za_en, hΛ]
          rw [hen] at hq
          obtain ⟨t0, ht0⟩ := (hty b _ hΛ).2.1 rfl
          refine va_zast hexec hb hK h4 (hD μ) h5 q0 t0 hq ht0 k.1 hdg (fun H1 locs1 hP1 _ hS1 => ?_)
          rw [za_ws_set (μ := μ) (ad := ad) (ca := ca) (μ' := (za_u μ.1 b j i.toNatClampNeg x, μ.2)) hp0 (by rw [hen, za_nar k.2.1]; simp only [za_u_at]) (fun b' j' h => za_en_ne (za_u_ne h) rfl)] at hP1
          exact k.2.2 h1.2.2.2 h2 lc H1 locs1 h3 hP1 hS1
        · cases h0
      · exact k.elim
    · exact k.elim
  · rename_i x i b j t
    split at k
    · rcases hins with ⟨h0, -⟩ | ⟨h0, -⟩ | ⟨-, rfl⟩
      · cases h0
      · cases h0
      · unfold za_ls at k
        split at k
        · rename_i n a1 hΛ
          intro h1 h2 lc H locs h3 h4 h5
          obtain ⟨q0, hp0, hq⟩ := za_ws_at ad ca μ hΛ (show j < cn b from h1.2.2.1)
          have hen : ∀ ν : za_M, za_en Λ ad ca ν b j = .inl (ca b, n, .inr (.inl (ν.2 b j))) := by intro ν; simp only [za_en, hΛ]
          rw [hen] at hq
          obtain ⟨t0, ht0⟩ := (hty b _ hΛ).2.2.1 rfl
          refine va_last hexec hb hK h4 (hD μ) h5 q0 t0 hq ht0 k.1 hdg (fun H1 locs1 hP1 _ hS1 => ?_)
          rw [za_ws_set (μ := μ) (ad := ad) (ca := ca) (μ' := (μ.1, za_u μ.2 b j i.toNatClampNeg x)) hp0 (by rw [hen]; simp only [za_u_atL]) (fun b' j' h => za_en_ne rfl (za_u_ne h))] at hP1
          exact k.2 h1.2.2.2 h2 lc H1 locs1 h3 hP1 hS1
        · exact k.elim
    · exact k.elim
  · exact k.elim
theorem zd_len (hexec : p.tables.exec = Jvm.exec) (hb : c.code = cc) (hK : va_K D cl tys s) (hty : za_ty Λ ca tys) (hX : X.1 = true → va_X X.2.1 X.2.2.1 X.2.2.2 s s.heap ∧ X.2.1 < s.heap.size ∧ ¬ A X.2.1) (hdg : decode cc pc = .ok (.arraylength, 1))
    (k : za_len Λ X st (fun x t => za_Z p l e R s m args below meth c Λ cn ad ca D cl A nL Q (pc + 1) ls (za_i x :: t) μ κ)) : za_Z p l e R s m args below meth c Λ cn ad ca D cl A nL Q pc ls st μ κ := by
  unfold za_len at k
  split at k
  · rename_i b j t
    unfold za_al at k
    split at k
    · rename_i n a1 hΛ
      intro h1 h2 lc H locs h3 h4 h5
      obtain ⟨q0, -, hq⟩ := za_ws_at ad ca μ hΛ (show j < cn b from h1.1)
      have hen : za_en Λ ad ca μ b j = .inl (ca b, n, .inl (μ.1 b j)) := by simp only [za_en, hΛ]
      rw [hen] at hq
      obtain ⟨t0, ht0⟩ := (hty b _ hΛ).1 rfl
      exact va_alen hexec hb hK h4 q0 t0 hq ht0 (v := nI n) rfl hdg (k ⟨trivial, h1.2⟩ h2 lc H locs h3 h4 h5)
    · rename_i n a1 hΛ
      intro h1 h2 lc H locs h3 h4 h5
      obtain ⟨q0, -, hq⟩ := za_ws_at ad ca μ hΛ (show j < cn b from h1.1)
      have hen : za_en Λ ad ca μ b j = .inl (ca b, n, .inl (μ.1 b j)) := by simp only [za_en, hΛ]
      rw [hen] at hq
      obtain ⟨t0, ht0⟩ := (hty b _ hΛ).2.1 rfl
      exact va_alen hexec hb hK h4 q0 t0 hq ht0 (v := nI n) rfl hdg (k ⟨trivial, h1.2⟩ h2 lc H locs h3 h4 h5)
    · rename_i n a1 hΛ
      intro h1 h2 lc H locs h3 h4 h5
      obtain ⟨q0, -, hq⟩ := za_ws_at ad ca μ hΛ (show j < cn b from h1.1)
      have hen : za_en Λ ad ca μ b j = .inl (ca b, n, .inr (.inl (μ.2 b j))) := by simp only [za_en, hΛ]
      rw [hen] at hq
      obtain ⟨t0, ht0⟩ := (hty b _ hΛ).2.2.1 rfl
      exact va_alen hexec hb hK h4 q0 t0 hq ht0 (v := nI n) rfl hdg (k ⟨trivial, h1.2⟩ h2 lc H locs h3 h4 h5)
    · rename_i n a1 a2 hΛ
      intro h1 h2 lc H locs h3 h4 h5
      obtain ⟨q0, -, hq⟩ := za_ws_at ad ca μ hΛ (show j < cn b from h1.1)
      obtain ⟨b', z1, z2⟩ := a1
      have hen : za_en Λ ad ca μ b j = .inl (ca b, n, .inr (.inr (.inr (.inr (fun i => some (ad b' (za_ix j n i))))))) := by simp only [za_en, hΛ]
      rw [hen] at hq
      obtain ⟨t0, ty, ht0, -⟩ := (hty b _ hΛ).2.2.2 rfl
      exact va_alen hexec hb hK h4 q0 t0 hq ht0 (v := nI n) rfl hdg (k ⟨trivial, h1.2⟩ h2 lc H locs h3 h4 h5)
    · exact k.elim
  · rename_i a t
    obtain ⟨hf, ha, k⟩ := k
    obtain ⟨hx1, hx2, hx3⟩ := hX hf
    subst ha
    intro h1 h2 lc H locs h3 h4 h5
    exact va_slen hexec hb hx1 hx2 hx3 h5 hdg (k ⟨trivial, h1.2⟩ h2 lc H locs h3 h4 h5)
  · exact k.elim
theorem zd_put (hexec : p.tables.exec = Jvm.exec) (hb : c.code = cc) (hK : va_K D cl tys s) (hD : ∀ μ : za_M, va_D A (za_ws Λ cn ad ca μ)) {own ref C : String} {T : u_T} {N ci index f : Nat} {Ts : List Cond} (hts : ∀ w ∈ Ts, w.before args s = true) (hin : ∀ w ∈ u_ws C T N, w ∈ Ts) (ty0 : Nat → FieldType) (hty0 : ∀ k, k < N → parseFieldDescriptor (T k).2.2.1 = some (ty0 k)) (hnm : ∀ a, a < N → ∀ b, b < N → a ≠ b → (T a).2.1 ≠ (T b).2.1) (hown : s.vm.findClass own = some m.cls) (hc : cl[ci]? = some (C, T, N)) (hf : f < N) (hlink : (Cond.fieldLink own index ref (T f).2.1 (T f).2.2.1).before args s = true) (hsame : ∀ x, s.fieldFound? (T f).1 (T f).2.1 (T f).2.2.1 = some x → s.fieldFound? ref (T f).2.1 (T f).2.2.1 = some x) (hfin : (T f).2.2.2 = false)
    (hfty : ∀ (b : Nat) (fs : List (Nat × Nat × Nat)) (q : Nat), za_n Λ b = some (4, ci, fs) → (∀ z, za_n fs f = some (0, 0, z) → ty0 f = .int) ∧ (∀ z, za_n fs f = some (0, 1, z) → ty0 f = .boolean)) (hdg : decode cc pc = .ok (.putfield index, 3))
    (k : za_put Λ μ ci f st (fun μ1 t => za_Z p l e R s m args below meth c Λ cn ad ca D cl A nL Q (pc + 3) ls t μ1 κ)) : za_Z p l e R s m args below meth c Λ cn ad ca D cl A nL Q pc ls st μ κ := by
  unfold za_put at k
  split at k
  · rename_i x b j t
    unfold za_pf at k
    split at k
    · rename_i c' fs hΛ
      intro h1 h2 lc H locs h3 h4 h5
      obtain ⟨q0, hp0, hq⟩ := za_ws_at ad ca μ hΛ (show j < cn b from h1.2.1)
      have hen : ∀ ν : za_M, za_en Λ ad ca ν b j = .inr (c', za_fs ad ν b j 0 fs) := by intro ν; simp only [za_en, hΛ]
      rw [hen] at hq
      split at k
      · rename_i a2 hbq hfq
        have hcc : c' = ci := Nat.eq_of_beq_eq_true hbq
        subst hcc
        have hl : f < (za_fs ad μ b j 0 fs).length := by rw [za_fs_len]; rw [za_n_eq] at hfq; exact (List.getElem?_eq_some_iff.mp hfq).1
        refine va_put hexec hb hts hin ty0 hty0 hnm hown hK h4 (hD μ) h5 q0 hq hc f hf hlink hsame hfin (ty := .int) (v := .int x) (by rw [hty0 f hf, (hfty b fs 0 hΛ).1 _ hfq]) rfl rfl hl hdg (fun H1 locs1 hP1 _ hS1 => ?_)
        rw [za_ws_set (μ := μ) (ad := ad) (ca := ca) (μ' := (za_u μ.1 b j f x, μ.2)) hp0 (by rw [hen, za_fs_set ad μ b j f x fs hfq rfl]) (fun b' j' h => za_en_ne (za_u_ne h) rfl)] at hP1
        exact k h1.2.2 h2 lc H1 locs1 h3 hP1 hS1
      · rename_i a2 hbq hfq
        have hcc : c' = ci := Nat.eq_of_beq_eq_true hbq
        subst hcc
        have hl : f < (za_fs ad μ b j 0 fs).length := by rw [za_fs_len]; rw [za_n_eq] at hfq; exact (List.getElem?_eq_some_iff.mp hfq).1
        refine va_put hexec hb hts hin ty0 hty0 hnm hown hK h4 (hD μ) h5 q0 hq hc f hf hlink hsame hfin (ty := .boolean) (v := .int x) (by rw [hty0 f hf, (hfty b fs 0 hΛ).2 _ hfq]) (za_narF k.1).1 (za_narF k.1).2 hl hdg (fun H1 locs1 hP1 _ hS1 => ?_)
        rw [za_ws_set (μ := μ) (ad := ad) (ca := ca) (μ' := (za_u μ.1 b j f x, μ.2)) hp0 (by rw [hen, za_fs_set ad μ b j f x fs hfq rfl]) (fun b' j' h => za_en_ne (za_u_ne h) rfl)] at hP1
        exact k.2 h1.2.2 h2 lc H1 locs1 h3 hP1 hS1
      · exact k.elim
    · exact k.elim
  · exact k.elim
end ZD
