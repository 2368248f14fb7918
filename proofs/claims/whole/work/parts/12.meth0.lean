/-! the start's locals; the contract of a method out of runs -/
theorem zk_l0_mem (ad : Nat → Nat → Nat) : ∀ (as : List za_V) (i0 i : Nat) (v : za_V), (zk_l0 as)[i]? = some (some v) → (i0 + i, za_cv ad v) ∈ lv_args i0 (as.map (za_cv ad)) ∧ v ∈ as
  | [], i0, i, v, h => by simp [zk_l0] at h
  | .inl x :: t, i0, i, v, h => by
    cases i with
    | zero =>
      simp only [zk_l0, List.getElem?_cons_zero, Option.some.injEq] at h
      subst h
      exact ⟨List.mem_cons_self, List.mem_cons_self⟩
    | succ i =>
      simp only [zk_l0, List.getElem?_cons_succ] at h
      obtain ⟨h1, h2⟩ := zk_l0_mem ad t (i0 + 1) i v h
      refine ⟨List.mem_cons_of_mem _ ?_, List.mem_cons_of_mem _ h2⟩
      rw [show i0 + (i + 1) = i0 + 1 + i by omega]
      exact h1
  | .inr (.inl x) :: t, i0, i, v, h => by
    cases i with
    | zero =>
      simp only [zk_l0, List.getElem?_cons_zero, Option.some.injEq] at h
      subst h
      exact ⟨List.mem_cons_self, List.mem_cons_self⟩
    | succ i =>
      cases i with
      | zero => simp [zk_l0] at h
      | succ i =>
        simp only [zk_l0, List.getElem?_cons_succ] at h
        obtain ⟨h1, h2⟩ := zk_l0_mem ad t (i0 + 2) i v h
        refine ⟨List.mem_cons_of_mem _ ?_, List.mem_cons_of_mem _ h2⟩
        rw [show i0 + (i + 1 + 1) = i0 + 2 + i by omega]
        exact h1
  | .inr (.inr (.inl q)) :: t, i0, i, v, h => by
    cases i with
    | zero =>
      simp only [zk_l0, List.getElem?_cons_zero, Option.some.injEq] at h
      subst h
      exact ⟨List.mem_cons_self, List.mem_cons_self⟩
    | succ i =>
      simp only [zk_l0, List.getElem?_cons_succ] at h
      obtain ⟨h1, h2⟩ := zk_l0_mem ad t (i0 + 1) i v h
      refine ⟨List.mem_cons_of_mem _ ?_, List.mem_cons_of_mem _ h2⟩
      rw [show i0 + (i + 1) = i0 + 1 + i by omega]
      exact h1
  | .inr (.inr (.inr a)) :: t, i0, i, v, h => by
    cases i with
    | zero =>
      simp only [zk_l0, List.getElem?_cons_zero, Option.some.injEq] at h
      subst h
      exact ⟨List.mem_cons_self, List.mem_cons_self⟩
    | succ i =>
      simp only [zk_l0, List.getElem?_cons_succ] at h
      obtain ⟨h1, h2⟩ := zk_l0_mem ad t (i0 + 1) i v h
      refine ⟨List.mem_cons_of_mem _ ?_, List.mem_cons_of_mem _ h2⟩
      rw [show i0 + (i + 1) = i0 + 1 + i by omega]
      exact h1
theorem zk_ls_at {as : List za_V} {nL i : Nat} {v : za_V} (h : za_n (zk_ls as nL) i = some (some v)) : (zk_l0 as)[i]? = some (some v) := by
  rw [za_n_eq, zk_ls] at h
  by_cases hi : i < (zk_l0 as).length
  · rw [List.getElem?_append_left hi] at h
    exact h
  · rw [List.getElem?_append_right (by omega), List.getElem?_replicate] at h
    split at h <;> cases h
theorem zk_oks_mem {cn : Nat → Nat} {as : List za_V} (h : za_oks cn as) {v : za_V} (hv : v ∈ as) : za_ok cn v := by
  induction as with
  | nil => cases hv
  | cons a t ih =>
    rcases List.mem_cons.mp hv with rfl | hv
    · exact h.1
    · exact ih h.2 hv
theorem zk_entry {ad : Nat → Nat → Nat} {as : List za_V} {nL : Nat} (hn : (zk_l0 as).length ≤ nL) : za_lo ad nL (zk_ls as nL) ((lg_sl (as.map (za_cv ad)) ++ List.replicate (nL - (lg_sl (as.map (za_cv ad))).length) Slot.unset).toArray) := by
  have h := lv_entry (as.map (za_cv ad)) (n := nL) (by rw [← zk_l0_len]; exact hn)
  refine ⟨?_, h.1, h.2.1, fun i v hv => ?_⟩
  · simp only [zk_ls, List.length_append, List.length_replicate]
    omega
  · have h1 := (zk_l0_mem ad as 0 i v (zk_ls_at hv)).1
    rw [Nat.zero_add] at h1
    exact h.2.2 _ h1
theorem zk_D {Θ : zk_T} {Γ : zk_G} {sz : Nat} (h : ∀ ν : za_M, va_D (fun _ => True) (za_ws Θ.1 Θ.2.1 Γ.2.1 Γ.2.2.1 ν)) (ν : za_M) : va_D (zk_A Θ Γ sz) (za_ws Θ.1 Θ.2.1 Γ.2.1 Γ.2.2.1 ν) := by
  refine ⟨(h ν).1, fun k q hk => ?_⟩
  obtain ⟨x, hx, rfl⟩ := List.mem_map.mp (List.mem_of_getElem? hk)
  have := za_ps_mem.mp hx
  exact Or.inl ⟨x.1, x.2, this.1, this.2, rfl⟩
set_option maxHeartbeats 4000000 in
theorem zk_meth0 {Θ : zk_T} {Γ : zk_G} {M : zk_Me} {d mc ms : Nat} {as : List za_V} {μ : za_M} {post : Option za_V → za_M → Prop} (hT : zk_gt Θ) (hMm : M ∈ Θ.2.2.2.2.2.1) (prog : List za_E) (hprog : ∀ E ∈ prog, za_gd M.2.2.2.1 M.2.2.1.cls Θ.2.2.2.2.1 Θ.2.2.1 E ∧ zk_gc Θ M.2.2.1.cls E) (hch : zk_ch prog) (hargs : (zk_l0 as).length ≤ M.2.2.2.2.1) (hd : 1 ≤ d)
    (body : ∀ ZZ : Nat → za_K, (∀ (cuts : List Nat) (n pc : Nat) ls st μ κ, zk_go Θ.1 zk_X0 (zk_rt M.2.2.2.2.2) (zk_RR mc ms post) (fun _ _ _ => False) (zk_CC Θ Γ d mc ms) (fun _ _ _ _ _ => False) prog cuts ZZ n pc ls st μ κ → ZZ pc ls st μ κ) → ZZ 0 (zk_ls as M.2.2.2.2.1) [] μ (0, 0)) :
    zk_Ct Θ Γ M d mc ms as μ post (fun _ _ => False) := by
  have hgm := hT.2.2.1 M hMm
  intro sz
  refine zx_ofW (cc := M.2.2.2.1) (maxL := M.2.2.2.2.1) (ret := M.2.2.2.2.2) (ws' := []) hgm.2.2.2.1 rfl ?_
  intro p e s m args below meth c s₁ B hml hnoex hP
  obtain ⟨rfl, hsz, hH, hoks, hI⟩ := hP
  subst hsz
  have hx := B.exec
  have hb := B.bytes
  have hr := B.returns
  have hlocks := B.notSynchronized
  have hown : s.vm.findClass M.2.2.1.cls = some m.cls := findClass_of_methodNamed B.named
  have C0 : za_Cx p s m (as.map (za_cv Γ.2.1)).toArray c Θ.1 Θ.2.1 Γ.2.1 Γ.2.2.1 Γ.2.2.2.1 Θ.2.2.1 (zk_A Θ Γ s.heap.size) M.2.2.2.1 Γ.2.2.2.2 zk_X0 M.2.2.1.cls Θ.2.2.2.2.1 Θ.2.2.2.1 :=
    ⟨hx, hb, fun w hw => hI.1 w hw _, hown, hI.2.1, zk_D hI.2.2.1, hT.1, hI.2.2.2.1, hT.2.1, fun h => by cases h⟩
  rw [lg_entry_eq]
  have key := body (zk_Z p e (zk_rm d mc ms) s m (as.map (za_cv Γ.2.1)).toArray below meth c (zx_MQ below (zk_Qc Θ Γ s.heap.size post (fun _ _ => False)) (as.map (za_cv Γ.2.1)).toArray s mc ms (zk_A Θ Γ s.heap.size)) Θ Γ M.2.2.2.2.1) ?_
  · exact key trivial (fun i v hv => zk_oks_mem hoks (zk_l0_mem Γ.2.1 as 0 i v (zk_ls_at hv)).2) _ _ [] (zk_entry hargs) hH va_S.rf
  · refine zk_go_sound hch ?_
    intro E hE K J ls st ν κ hK hJ h
    obtain ⟨hgd, hgc⟩ := hprog E hE
    refine ze_step C0 hgd hK hJ ?_ ?_ ?_ ?_ ?_ ?_ ?_ h
    · rintro x ν κ hret ⟨h1, h2, hp⟩ hdg g1 g2 lc H locs g3 g4 g5
      refine zx_ret (W.widen h1 h2 ?_)
      rcases hret with h0 | ⟨h0, h01⟩
      · have h9 : M.2.2.2.2.2 = some .int := by
          revert h0
          unfold zk_rt
          split <;> simp_all
        exact W.iret (v := x) hx hb (hr.trans h9) (fun t ht hW => ⟨Or.inl ⟨some (za_i x), ν, rfl, trivial, hp, by rw [ht]; exact g4⟩, g5.F ht⟩) g5.2.2 hdg
      · have h9 : M.2.2.2.2.2 = some .boolean := by
          revert h0
          unfold zk_rt
          split <;> simp_all
        exact W.zret (v := x) (ty := .boolean) hx hb (hr.trans h9) (za_narF h01).1 (fun t ht hW => ⟨Or.inl ⟨some (za_i x), ν, rfl, trivial, hp, by rw [ht]; exact g4⟩, g5.F ht⟩) g5.2.2 hdg
    · rintro x ν κ h0 ⟨h1, h2, hp⟩ hdg g1 g2 lc H locs g3 g4 g5
      refine zx_ret (W.widen h1 h2 ?_)
      have h9 : M.2.2.2.2.2 = some .long := by
        revert h0
        unfold zk_rt
        split <;> simp_all
      exact W.lret (v := x) hx hb (hr.trans h9) (fun t ht hW => ⟨Or.inl ⟨some (za_l x), ν, rfl, trivial, hp, by rw [ht]; exact g4⟩, g5.F ht⟩) g5.2.2 hdg
    · rintro r ν κ h0 ⟨h1, h2, hp⟩ hdg g1 g2 lc H locs g3 g4 g5
      refine zx_ret (W.widen h1 h2 ?_)
      obtain ⟨a, ha⟩ := za_cvA Γ.2.1 r
      have h9 : ∃ rt, M.2.2.2.2.2 = some rt ∧ ((∃ n, rt = .object n) ∨ ∃ t, rt = .array t) := by
        revert h0
        unfold zk_rt
        split <;> simp_all
      obtain ⟨rt, h9, h10⟩ := h9
      exact W.aret (v := za_cv Γ.2.1 (.inr (.inr r))) (rt := rt) hx hb (hr.trans h9) h10 (Or.inr ⟨a, ha⟩) (fun t ht hW => ⟨Or.inl ⟨some (.inr (.inr r)), ν, rfl, g1.1, hp, by rw [ht]; exact g4⟩, g5.F ht⟩) g5.2.2 hdg
    · rintro ν κ h0 ⟨h1, h2, hp⟩ hdg g1 g2 lc H locs g3 g4 g5
      refine zx_ret (W.widen h1 h2 ?_)
      have h9 : M.2.2.2.2.2 = none := by
        revert h0
        unfold zk_rt
        split <;> simp_all
      exact W.vret hx hb (hr.trans h9) (fun t ht hW => ⟨Or.inl ⟨none, ν, rfl, trivial, hp, by rw [ht]; exact g4⟩, g5.F ht⟩) g5.2.2 hdg
    · intro k as' t hst hlen hwt hin h999 hCC
      have hdg := hgd.1
      have hnx := hgd.2.1
      have h3 : za_ln E.2.1 E.2.2.2.2.1 = 3 := by rcases hin with h | h | h <;> rw [h] <;> rfl
      rw [h3] at hdg hnx
      have hsp : ¬ E.2.1 = .invokespecial k := by
        intro hq
        unfold zk_gc at hgc
        rw [hq] at hgc
        exact hgc
      refine zk_call (k := k) hT C0 hI hml hgc hdg hnx hst hlen hwt ?_ (fun r μ1 κ1 hr => ?_) (fun x μ1 κ1 q ce lc H1 locs1 hf => hf.elim) hCC
      · rcases hin with h | h | h
        · exact Or.inl h
        · exact absurd h hsp
        · exact Or.inr ⟨h, h999 h⟩
      · cases r with
        | none => exact hK _ _ _ _ hr
        | some v => exact hK _ _ _ _ hr
    · intro k hi h999 hcp
      unfold zk_gc at hgc
      rw [hi] at hgc
      have hdg := hgd.1
      have hnx := hgd.2.1
      rw [hi] at hdg hnx
      rcases hgc with ⟨-, g1, g2, g3, g4⟩ | ⟨M', g0, -⟩
      · rw [hnx] at hK
        refine zf_cp hx hb hml hI.2.1 (zk_D hI.2.2.1) hI.2.2.2.1 hown (hI.1 _ g1 _) (hI.1 _ g2 _) (hI.1 _ g3 _) (hI.1 _ g4 _) hd ?_ hdg (za_cp_mono (fun v t h => hK _ _ _ _ h) hcp)
        show 8 + (nativeFrameWords "java/lang/System" "arraycopy" 5 + 11) ≤ 64 * d
        have : nativeFrameWords "java/lang/System" "arraycopy" 5 ≤ 45 := by decide
        omega
      · exact absurd h999 g0
    · intro k hi hf
      exact hf.2.elim
