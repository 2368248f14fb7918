/-! the law's run is sound -/
set_option maxHeartbeats 8000000 in
theorem zl_run {p : Program} {e : Env} {s : State} {m : MethodId} {below : List Frame} {meth : Method} {c : Code} {b L : Nat} {xs : Nat → Int32} {Γ : zk_G}
    (C0 : za_Cx p s m #[Value.ref b] c zt_Λ zt_cn Γ.2.1 Γ.2.2.1 Γ.2.2.2.1 zt_cl (zk_A zt Γ s.heap.size) code Γ.2.2.2.2 (true, b, L, xs) "AttributeKindsLaw" zt_WS zt_ft) (hI : zk_I zt Γ s) (hml : c.maxLocals = 7) (hr : meth.sig.returnType = ret) (hlocks : meth.locks = false) (hnew : ∀ b j, b < zt_Λ.length → j < zt_cn b → s.heap.size ≤ Γ.2.1 b j) :
    ∀ (cuts : List Nat) (n pc : Nat) (ls : za_C) (st : List za_V) (μ : za_M) (κ : Nat × Nat), zk_go zt_Λ (true, b, L, xs) 2 zl_RR (fun _ _ _ => False) (zl_CC Γ) (fun _ _ _ _ _ => False) zp_law cuts (zk_Z p e (zk_rm 1312 601024 7293034) s m #[Value.ref b] below meth c (lw_Z below #[Value.ref b] s) zt Γ 7) n pc ls st μ κ → zk_Z p e (zk_rm 1312 601024 7293034) s m #[Value.ref b] below meth c (lw_Z below #[Value.ref b] s) zt Γ 7 pc ls st μ κ := by
  have C1 : za_Cx p s m #[Value.ref b] c zt.1 zt.2.1 Γ.2.1 Γ.2.2.1 Γ.2.2.2.1 zt.2.2.1 (zk_A zt Γ s.heap.size) code Γ.2.2.2.2 zk_X0 "AttributeKindsLaw" zt.2.2.2.2.1 zt.2.2.2.1 := ⟨C0.1, C0.2.1, C0.2.2.1, C0.2.2.2.1, C0.2.2.2.2.1, C0.2.2.2.2.2.1, C0.2.2.2.2.2.2.1, C0.2.2.2.2.2.2.2.1, C0.2.2.2.2.2.2.2.2.1, fun h => by cases h⟩
  have hx := C0.1
  have hb := C0.2.1
  have hts := C0.2.2.1
  have hown := C0.2.2.2.1
  refine zk_go_sound (zh_ch_ok zc_law) ?_
  intro E hE K J ls st ν κ hK hJ h
  obtain ⟨hgd, hgc⟩ := zl_gd E hE
  refine ze_step C0 hgd hK hJ ?_ ?_ ?_ ?_ ?_ ?_ ?_ h
  · rintro x ν κ hret ⟨h1, h2, h3⟩ hdg g1 g2 lc H locs g3 g4 g5
    cases h1
    refine va_forget (fun q hq => ?_) (W.widen h2 h3 (lw_ret hx hb hr hlocks hdg))
    rcases g5.2.2 q hq with ⟨b', j', z1, z2, z3⟩ | z
    · rw [z3]; exact hnew b' j' z1 z2
    · exact z
  · intro x ν κ h0
    exact absurd h0 (by decide)
  · intro r ν κ h0
    exact absurd h0 (by decide)
  · intro ν κ h0
    exact absurd h0 (by decide)
  · intro k as t hst hlen hwt hin h999 hCC
    have hdg := hgd.1
    have hnx := hgd.2.1
    have h3 : za_ln E.2.1 E.2.2.2.2.1 = 3 := by rcases hin with h | h | h <;> rw [h] <;> rfl
    rw [h3] at hdg hnx
    by_cases hstt : E.2.1 = .invokestatic k
    · obtain ⟨h200, q, hq, w1, w2, w3, w4, w5, w6⟩ := zl_gsall E hE k hstt
      unfold zl_CC at hCC
      rw [show Nat.ble 200 E.2.2.2.1 = true from Nat.ble_eq_true_of_le h200] at hCC
      dsimp only at hCC
      rw [hq] at hCC
      dsimp only at hCC
      obtain ⟨d', mc', ms', post, hd, hc1, hc2, hCt, hp⟩ := hCC
      intro g1 g2 lc H locs g3 g4 g5
      rw [hstt] at hdg
      have hoks : za_oks zt.2.1 as ∧ za_oks zt.2.1 t := by
        rw [hst] at g1
        exact za_oks_split g1
      have hPc : ∀ U : State, U.heap = H → s.WarmedH U.vm → zk_Pc zt Γ H.size as ν (as.map (za_cv Γ.2.1)).toArray U := fun U hU hW => ⟨rfl, by rw [hU], by rw [hU]; exact g4, hoks.1, hI.warm zt_gt hW (fun a q1 q2 => by rw [hU]; exact g5.2.1 a q1 q2)⟩
      have hws : ∀ w ∈ [Cond.codeWith q.1.2.2.1 q.1.2.2.2.1 q.1.2.2.2.2.1 q.1.2.2.2.2.2 q.2], ∀ (a' : Array Value) (U : State), s.WarmedH U.vm → w.before a' U = true := fun w hw a' U hW => (hI.1.warm zt_gt hW) w (by rw [List.mem_singleton.mp hw]; exact w3) a'
      have hstk : (st.map (za_cv Γ.2.1)) = (as.map (za_cv Γ.2.1)).reverse ++ t.map (za_cv Γ.2.1) := by rw [hst, List.map_append, List.map_reverse]
      have hweight : 2 * (F0 m E.1 lc (st.map (za_cv Γ.2.1))).monitorRoom + ((t.map (za_cv Γ.2.1)).map fun v => v.category).sum ≤ 8 := by
        rw [za_wt_cat]
        exact Nat.le_trans (Nat.le_of_eq (by show 2 * 0 + _ = _; omega)) hwt
      have hfin := fun (o : Outcome) (st₀ t' : State) (L : List Loc) (a0 : st₀.heap = H) (a1 : s.vm.Alike st₀.vm) (a2 : zk_Qc zt Γ H.size post (fun _ _ => False) (as.map (za_cv Γ.2.1)).toArray st₀ o t') (a4 : ∀ q ∈ L, zk_A zt Γ H.size q.base) =>
        zk_after (p := p) (e := e) (R := zk_rm 1312 601024 7293034) (s := s) (m := m) (args := #[Value.ref b]) (below := below) (meth := meth) (c := c) (Q := lw_Z below #[Value.ref b] s) (nL := 7) (κ := (κ.1 + mc', κ.2 + ms')) (pc := E.1) (nx := E.2.2.1) (rest := t) rfl a0 (Or.inr a1) a2 a4 g5 g3 g2 hoks.2 (fun r μ1 hr => by
          have h9 := hp r μ1 hr
          cases r with
          | none => exact hK _ _ _ _ h9
          | some v => exact hK _ _ _ _ h9)
          (fun x μ1 q ce H1 locs1 z => z.elim)
      exact zx_runSC (hs := q.2) (As := as.map (za_cv Γ.2.1)) (rest := t.map (za_cv Γ.2.1)) (n := as.length) (own := "AttributeKindsLaw") (bytes := q.1.2.2.2.1) (maxL := q.1.2.2.2.2.1) (ret := q.1.2.2.2.2.2) hx hb hml hown (hCt H.size) rfl rfl hd (by show 8 + (q.1.2.2.2.2.1 + 11) + 64 * d' ≤ 64 * 1312; omega) hws (List.mem_singleton.mpr rfl) (hts _ w3) (by rw [w4]; exact hts _ zw_ini_L) (by rw [w4]; decide) (fun sig hsig => by
          rw [hsig] at w6
          rw [hlen]
          exact (Option.some.inj w6).symm) (hts _ w1) (hts _ w2) ⟨zk_blind zt_gt, hPc⟩ rfl (by simp) g3.2.1 hstk hweight hdg ⟨hc1, hc2⟩ (fun o st₀ t' L a0 a1 a2 _ a4 => by rw [← hnx]; exact hfin o st₀ t' L a0 a1 a2 a4)
    · have hgc' := hgc (fun k' hk' => by
        rcases hin with h | h | h
        · rw [h] at hk'; cases hk'
        · rw [h] at hk'; cases hk'
        · exact hstt h)
      have hsp : ¬ E.2.1 = .invokespecial k := by
        intro hq
        unfold zk_gc at hgc'
        rw [hq] at hgc'
        exact hgc'
      have hiv : E.2.1 = .invokevirtual k := by
        rcases hin with h | h | h
        · exact h
        · exact absurd h hsp
        · exact absurd h hstt
      have hlt : E.2.2.2.1 < 200 := by
        have hg9 := hgc'
        unfold zk_gc at hg9
        rw [hiv] at hg9
        obtain ⟨M, q, z1, -⟩ := hg9
        rw [za_n_eq] at z1
        have := (List.getElem?_eq_some_iff.mp z1).1
        have h98 : zt.2.2.2.2.2.1.length ≤ 200 := by decide
        omega
      unfold zl_CC at hCC
      rw [show Nat.ble 200 E.2.2.2.1 = false from by
        cases hb9 : Nat.ble 200 E.2.2.2.1 with
        | false => rfl
        | true => have := Nat.le_of_ble_eq_true hb9; omega] at hCC
      refine zk_call (k := k) zt_gt C1 hI hml hgc' hdg hnx hst hlen hwt (Or.inl hiv) (fun r μ1 κ1 hr => ?_) (fun x μ1 κ1 q ce lc H1 locs1 hf => hf.elim) hCC
      cases r with
      | none => exact hK _ _ _ _ hr
      | some v => exact hK _ _ _ _ hr
  · intro k hi h999 hcp
    obtain ⟨h200, q, hq, -⟩ := zl_gsall E hE k hi
    rw [h999] at hq
    cases hq
  · intro k hi hf
    exact hf.2.elim
