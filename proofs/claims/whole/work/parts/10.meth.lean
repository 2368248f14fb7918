/-! a method's body by runs -/
def zk_rt (r : Option FieldType) : Nat := match r with
  | none => 0
  | some .int => 1
  | some .boolean => 2
  | some .long => 3
  | some (.object _) => 4
  | some (.array _) => 4
  | _ => 9
theorem zk_A.up {Θ : zk_T} {Γ : zk_G} {a b : Nat} (h : a ≤ b) {q : Nat} (hq : zk_A Θ Γ b q) : zk_A Θ Γ a q := by
  rcases hq with hq | hq
  · exact Or.inl hq
  · exact Or.inr (Nat.le_trans h hq)
section ZKA
variable {p : Program} {l : Launch} {e : Env} {R : Room} {s : State} {m : MethodId} {args : Array Value} {below : List Frame} {meth : Method} {c : Code} {Q : State → Prop} {Θ : zk_T} {Γ : zk_G} {nL : Nat}
/-- where the method stands, in the words of the tables -/
abbrev zk_Z (p : Program) (e : Env) (R : Room) (s : State) (m : MethodId) (args : Array Value) (below : List Frame) (meth : Method) (c : Code) (Q : State → Prop) (Θ : zk_T) (Γ : zk_G) (nL : Nat) : Nat → za_K := za_Z p Γ.1 e R s m args below meth c Θ.1 Θ.2.1 Γ.2.1 Γ.2.2.1 Γ.2.2.2.1 Θ.2.2.1 (zk_A Θ Γ s.heap.size) nL Q
/-- behind a call -/
theorem zk_after {sz' : Nat} {post : Option za_V → za_M → Prop} {px : Nat → za_M → Prop} {a : Array Value} {o : Outcome} {st₀ t : State} {L locs : List Loc} {H : Heap} {κ : Nat × Nat} {pc nx : Nat} {ls : za_C} {rest : List za_V} {lc : Array Slot}
    (hsz : sz' = H.size) (h0 : st₀.heap = H) (hvm : st₀.vm = s.vm ∨ s.vm.Alike st₀.vm) (hQ : zk_Qc Θ Γ sz' post px a st₀ o t) (hL : ∀ q ∈ L, zk_A Θ Γ sz' q.base) (hS : va_S (zk_A Θ Γ s.heap.size) s.heap H locs) (hlo : za_lo Γ.2.1 nL ls lc) (hokc : za_okc Θ.2.1 ls) (hok : za_oks Θ.2.1 rest)
    (hk : ∀ r μ1, post r μ1 → za_back r rest (fun t1 => zk_Z p e R s m args below meth c Q Θ Γ nL nx ls t1 μ1 κ))
    (hx : ∀ E μ1 q ce H1 locs1, px E μ1 → zk_H Θ Γ μ1 H1 → va_S (zk_A Θ Γ s.heap.size) s.heap H1 locs1 → H1[q]? = some ce → ce.vm = .none → s.vm.findClass (Θ.2.2.2.2.2.2 E) = some ce.cls → zx_WX p Γ.1 e R s m args below meth c H1 locs1 κ.1 κ.2 Q (F0 m pc lc (rest.map (za_cv Γ.2.1))) q) :
    (∀ v, o = .returned v → W p Γ.1 e R s m args below meth c t.heap (locs ++ L) κ.1 κ.2 Q (F0 m nx lc (v.toList ++ rest.map (za_cv Γ.2.1)))) ∧ (∀ q, o = .threw q → zx_WX p Γ.1 e R s m args below meth c t.heap (locs ++ L) κ.1 κ.2 Q (F0 m pc lc (rest.map (za_cv Γ.2.1))) q) := by
  subst hsz
  obtain ⟨hend, hF1, hF2⟩ := hQ
  rw [h0] at hF1 hF2
  have hS1 : va_S (zk_A Θ Γ s.heap.size) s.heap t.heap (locs ++ L) := by
    refine ⟨Nat.le_trans hS.1 hF1, fun q h1 h2 => ?_, fun q hq => ?_⟩
    · rw [hF2 q (Nat.lt_of_lt_of_le h1 hS.1) (fun z => h2 (zk_A.up hS.1 z))]
      exact hS.2.1 q h1 h2
    · rcases List.mem_append.mp hq with h | h
      · exact hS.2.2 q h
      · exact zk_A.up hS.1 (hL q h)
  refine ⟨fun v hv => ?_, fun q hq => ?_⟩
  · rcases hend with ⟨r, μ1, ho, hokr, hpost, hP⟩ | ⟨q, E, ce, μ1, ho, -⟩
    · rw [hv] at ho
      cases ho
      have h9 := hk r μ1 hpost
      cases r with
      | none => exact h9 hok hokc lc t.heap (locs ++ L) hlo hP hS1
      | some v => exact h9 ⟨hokr, hok⟩ hokc lc t.heap (locs ++ L) hlo hP hS1
    · rw [hv] at ho; cases ho
  · rcases hend with ⟨r, μ1, ho, -⟩ | ⟨q', E, ce, μ1, ho, hpx, hP, hce, hcv, hcl⟩
    · rw [hq] at ho; cases ho
    · rw [hq] at ho
      cases ho
      refine hx E μ1 q ce t.heap (locs ++ L) hpx hP hS1 hce hcv ?_
      rcases hvm with h | h
      · rw [← h]; exact hcl
      · rw [← h.findClass]; exact hcl
end ZKA
section ZKB
variable {p : Program} {e : Env} {s : State} {m : MethodId} {args : Array Value} {below : List Frame} {meth : Method} {c : Code} {Q : State → Prop} {Θ : zk_T} {Γ : zk_G} {nL d mc ms : Nat} {cc : ByteArray} {own : String}
/-- a call, over contracts -/
theorem zk_call (hT : zk_gt Θ) (C0 : za_Cx p s m args c Θ.1 Θ.2.1 Γ.2.1 Γ.2.2.1 Γ.2.2.2.1 Θ.2.2.1 (zk_A Θ Γ s.heap.size) cc Γ.2.2.2.2 zk_X0 own Θ.2.2.2.2.1 Θ.2.2.2.1) (hI : zk_I Θ Γ s) (hml : c.maxLocals = nL)
    {E : za_E} {ls : za_C} {st as t : List za_V} {μ : za_M} {κ : Nat × Nat} {k : Nat} {KK : za_RR} {XX : za_XX} (hG : zk_gc Θ own E) (hdg : decode cc E.1 = .ok (E.2.1, 3)) (hnx : E.2.2.1 = E.1 + 3) (hst : st = as.reverse ++ t) (hlen : as.length = E.2.2.2.2.1) (hwt : za_wt t ≤ 8) (hin : E.2.1 = .invokevirtual k ∨ (E.2.1 = .invokestatic k ∧ ¬ E.2.2.2.1 = 999))
    (hKK : ∀ r μ1 κ1, KK r μ1 κ1 → za_back r t (fun t1 => zk_Z p e (zk_rm d mc ms) s m args below meth c Q Θ Γ nL E.2.2.1 ls t1 μ1 κ1))
    (hXX : ∀ x μ1 κ1 q ce lc H1 locs1, XX x μ1 κ1 → za_lo Γ.2.1 nL ls lc → zk_H Θ Γ μ1 H1 → va_S (zk_A Θ Γ s.heap.size) s.heap H1 locs1 → H1[q]? = some ce → ce.vm = .none → s.vm.findClass (Θ.2.2.2.2.2.2 x) = some ce.cls → zx_WX p Γ.1 e (zk_rm d mc ms) s m args below meth c H1 locs1 κ1.1 κ1.2 Q (F0 m E.1 lc (t.map (za_cv Γ.2.1))) q)
    (h : zk_CC Θ Γ d mc ms E.2.2.2.1 as μ κ KK XX) : zk_Z p e (zk_rm d mc ms) s m args below meth c Q Θ Γ nL E.1 ls st μ κ := by
  obtain ⟨hx, hb, hts, hown, hK, hD, -⟩ := C0
  intro h1 h2 lc H locs h3 h4 h5
  unfold zk_CC at h
  split at h
  · rename_i M hM
    split at h
    · rename_i hrc
      obtain ⟨d', mc', ms', post, px, hd, hc1, hc2, hCt, hp, hpx⟩ := h
      have hgm := hT.2.2.1 M (by rw [za_n_eq] at hM; exact List.mem_of_getElem? hM)
      have hoks : za_oks Θ.2.1 as ∧ za_oks Θ.2.1 t := by
        rw [hst] at h1
        exact za_oks_split h1
      have hPc : ∀ U : State, U.heap = H → s.WarmedH U.vm → zk_Pc Θ Γ H.size as μ (as.map (za_cv Γ.2.1)).toArray U := fun U hU hW => ⟨rfl, by rw [hU], by rw [hU]; exact h4, hoks.1, hI.warm hT hW (fun a q1 q2 => by rw [hU]; exact h5.2.1 a q1 q2)⟩
      have hws : ∀ w ∈ [Cond.code M.2.2.1 M.2.2.2.1 M.2.2.2.2.1 M.2.2.2.2.2], ∀ (a' : Array Value) (U : State), s.WarmedH U.vm → w.before a' U = true := fun w hw a' U hW => (hI.1.warm hT hW) w (by rw [List.mem_singleton.mp hw]; exact hgm.1) a'
      have hroom : (zk_rm d' mc' ms').frames + 1 ≤ (zk_rm d mc ms).frames ∧ 8 + (M.2.2.2.2.1 + 11) + (zk_rm d' mc' ms').locals ≤ (zk_rm d mc ms).locals := by
        refine ⟨hd, ?_⟩
        show 8 + (M.2.2.2.2.1 + 11) + 64 * d' ≤ 64 * d
        have := hgm.2.2.2.2
        omega
      have hstk : (st.map (za_cv Γ.2.1)) = (as.map (za_cv Γ.2.1)).reverse ++ t.map (za_cv Γ.2.1) := by rw [hst, List.map_append, List.map_reverse]
      have hweight : 2 * (F0 m E.1 lc (st.map (za_cv Γ.2.1))).monitorRoom + ((t.map (za_cv Γ.2.1)).map fun v => v.category).sum ≤ 8 := by
        rw [za_wt_cat]
        exact Nat.le_trans (Nat.le_of_eq (by show 2 * 0 + _ = _; omega)) hwt
      have hfin := fun (o : Outcome) (st₀ t' : State) (L : List Loc) (g0 : st₀.heap = H) (g1 : s.vm.Alike st₀.vm) (g2 : zk_Qc Θ Γ H.size post px (as.map (za_cv Γ.2.1)).toArray st₀ o t') (g4 : ∀ q ∈ L, zk_A Θ Γ H.size q.base) =>
        zk_after (p := p) (e := e) (R := zk_rm d mc ms) (s := s) (m := m) (args := args) (below := below) (meth := meth) (c := c) (Q := Q) (nL := nL) (κ := (κ.1 + mc', κ.2 + ms')) (pc := E.1) (nx := E.2.2.1) (rest := t) rfl g0 (Or.inr g1) g2 g4 h5 h3 h2 hoks.2 (fun r μ1 hr => hKK r μ1 _ (hp r μ1 hr))
          (fun x μ1 q ce H1 locs1 g5 g6 g7 g8 g9 g10 => hXX x μ1 _ q ce lc H1 locs1 (hpx x μ1 g5) h3 g6 g7 g8 g9 g10)
      have hini := hts _ hgm.2.1
      have hcode := hts _ hgm.1
      unfold zk_gc at hG
      rcases hin with hi | ⟨hi, h999⟩
      · rw [hi] at hG hdg
        obtain ⟨M', q, g1, g2, g3, g4, g5, g6, g7, g8⟩ := hG
        cases hM.symm.trans g1
        cases as with
        | nil =>
          unfold zk_rc at hrc
          rw [g2] at hrc
          cases hrc
        | cons v as' =>
          obtain ⟨b, j, hv, fs, hΛ⟩ : ∃ b j, v = .inr (.inr (.inl (b, j))) ∧ ∃ fs, za_n Θ.1 b = some (4, M.2.1, fs) := by
            unfold zk_rc at hrc
            rw [g2] at hrc
            simp only at hrc
            split at hrc
            · rename_i b j tl heq
              cases heq
              split at hrc
              · rename_i ci fs hΛ
                exact ⟨b, j, rfl, fs, by rw [hΛ, Nat.eq_of_beq_eq_true hrc]⟩
              · cases hrc
            · cases hrc
          subst hv
          have hlive : j < Θ.2.1 b := hoks.1.1
          obtain ⟨q0, -, hq0⟩ := za_ws_at Γ.2.1 Γ.2.2.1 μ hΛ hlive
          have hen : za_en Θ.1 Γ.2.1 Γ.2.2.1 μ b j = .inr (M.2.1, za_fs Γ.2.1 μ b j 0 fs) := by simp only [za_en, hΛ]
          rw [hen] at hq0
          have hrecv := va_recv hK h4 g3 hq0
          rw [g4] at hrecv
          refine zx_runV (As := as'.map (za_cv Γ.2.1)) (rest := t.map (za_cv Γ.2.1)) (b := Γ.2.1 b j) (n := as'.length) (C := M.2.2.1.cls) (own := own) (bytes := M.2.2.2.1) (maxL := M.2.2.2.2.1) (ret := M.2.2.2.2.2) hx hb hml hown (hCt H.size)
            ⟨⟨rfl, rfl, hroom.1, hroom.2, hws, List.mem_singleton.mpr rfl, hcode, hini, hgm.2.2.1, fun sig hsig => ?_, hts _ g5⟩, hts _ g6, hts _ g7⟩ ⟨zk_blind hT, hrecv, hPc⟩ rfl (by simp) h3.2.1 (by rw [hstk]; simp; rfl) hweight hdg ⟨hc1, hc2⟩ (fun o st₀ t' L g0 g1 g2 _ g4 => by rw [← hnx]; exact hfin o st₀ t' L g0 g1 g2 g4)
          rw [hsig] at g8
          simp only [Option.map_some, Option.some.injEq] at g8
          simp only [List.length_cons] at hlen
          omega
      · rw [hi] at hG hdg
        rcases hG with ⟨hbad, -⟩ | ⟨M', -, g1, g2, g3, g4, g5⟩
        · exact absurd hbad h999
        · cases hM.symm.trans g1
          have hn : ∀ sig, parseMethodDescriptor M.2.2.1.desc = some sig → as.length = sig.parameters.length := by
            intro sig hsig
            rw [hsig] at g5
            simp only [Option.map_some, Option.some.injEq] at g5
            omega
          rcases g3 with g3 | ⟨host, g3⟩
          · exact zx_runS (As := as.map (za_cv Γ.2.1)) (rest := t.map (za_cv Γ.2.1)) (n := as.length) (own := own) (bytes := M.2.2.2.1) (maxL := M.2.2.2.2.1) (ret := M.2.2.2.2.2) hx hb hml hown (hCt H.size)
              ⟨⟨rfl, rfl, hroom.1, hroom.2, hws, List.mem_singleton.mpr rfl, hcode, hini, hgm.2.2.1, hn, hts _ g3⟩, hts _ g4⟩ ⟨zk_blind hT, hPc⟩ rfl (by simp) h3.2.1 hstk hweight hdg ⟨hc1, hc2⟩ (fun o st₀ t' L g0 g1 g2 _ g4 => by rw [← hnx]; exact hfin o st₀ t' L g0 g1 g2 g4)
          · exact zx_runSN (host := host) (As := as.map (za_cv Γ.2.1)) (rest := t.map (za_cv Γ.2.1)) (n := as.length) (own := own) (bytes := M.2.2.2.1) (maxL := M.2.2.2.2.1) (ret := M.2.2.2.2.2) hx hb hml hown (hCt H.size)
              ⟨⟨⟨rfl, rfl, hroom.1, hroom.2, hws, List.mem_singleton.mpr rfl⟩, hcode, hini, hgm.2.2.1, hn, hts _ g3⟩, hts _ g4⟩ ⟨zk_blind hT, hPc⟩ rfl (by simp) h3.2.1 hstk hweight hdg ⟨hc1, hc2⟩ (fun o st₀ t' L g0 g1 g2 _ g4 => by rw [← hnx]; exact hfin o st₀ t' L g0 g1 g2 g4)
    · exact h.elim
  · exact h.elim
end ZKB
