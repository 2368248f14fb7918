/-! the class: combine -/
theorem nI_s1 (h : Nat) : nI (h + 1) - 1 = nI h := by rw [← nI_1, Int32.add_sub_cancel]
theorem ct_B_startFrom' {Γ : zk_G} {d J J' j j' : Nat} {μ : za_M} (hj : j = J) (hj' : j' = J') (hd : 1 ≤ d) (hc : μ.1 18 J' 1 = 0 ∨ μ.1 18 J' 1 = 1) (hne : J ≠ J') : zk_Ct zt Γ zm_B_startFrom d 0 0 [za_r 18 j, za_r 18 j'] μ
    (fun r μ' => r = none ∧ (∀ i, i < 32 → μ'.1 19 J i = μ.1 19 J' i) ∧ μ'.1 18 J 1 = μ.1 18 J' 1 ∧ zq_fr (fun b j => (b = 18 ∨ b = 19) ∧ j = J) μ μ') (fun _ _ => False) := by
  subst hj hj'
  exact ct_B_startFrom hd hc hne
theorem ct_B_lay'' {Γ : zk_G} {d J j o : Nat} {x : Int32} {rel : Int64} {μ : za_M} (hj : j = J) (hx : x = nI o) (hd : 2 ≤ d) (ho : o < 4) : zk_Ct zt Γ zm_B_lay d 0 0 [za_r 18 j, za_i x, za_l rel] μ
    (fun r μ' => r = none ∧ (∀ i, i < 32 → μ'.1 19 J i = bd_lay (μ.1 19 J) o rel i) ∧ zq_fr (fun b j => b = 19 ∧ j = J) μ μ') (fun _ _ => False) := by
  subst hj
  exact ct_B_lay' hx hd ho
theorem ct_B_join'' {Γ : zk_G} {d J j o : Nat} {x : Int32} {μ : za_M} (hj : j = J) (hx : x = nI o) (hd : 2 ≤ d) (ho : o < 4) : zk_Ct zt Γ zm_B_join d 0 0 [za_r 18 j, za_i x] μ
    (fun r μ' => r = none ∧ (∀ i, i < 32 → μ'.1 19 J i = bd_jk (μ.1 19 J) o 6 i) ∧ μ'.1 18 J 1 = bd_ck (μ.1 19 J) o (μ.1 18 J 1) 6 ∧ zq_fr (fun b j => (b = 18 ∨ b = 19) ∧ j = J) μ μ') (fun _ _ => False) := by
  subst hj
  exact ct_B_join' hx hd ho
def tg_S (k b j : Nat) : Prop := ((b = 11 ∨ b = 12) ∧ j = 0) ∨ b = 14 ∨ ((b = 18 ∨ b = 19) ∧ k ≤ j)
def tg_N (μ : za_M) (N Bf : Nat → Nat) : Prop := ∀ s, s < 8 → μ.1 15 0 s = nI (N s) ∧ μ.1 16 0 s = nI (Bf s) ∧ Bf s ≤ N s ∧ N s ≤ tg_K μ s
/-- fresh: a graph of the last round is among the first parts -/
def tg_fr (g : gq_G) (p : Nat) (Bf idx : Nat → Nat) (k : Nat) (F0 : Prop) : Prop := F0 ∨ ∃ o, 1 ≤ o ∧ o < k ∧ o ≤ gq_m g p ∧ Bf (gq_sy g p o) ≤ idx o
def tg_post (g : gq_G) (p : Nat) (N Bf : Nat → Nat) (F0 : Prop) (k : Nat) (idx : Nat → Nat) (μ μ' : za_M) : Prop := tg_I g μ' ∧ tg_le μ μ' ∧ (μ'.1 11 0 1 = 0 → ∀ idx', (∀ o, 1 ≤ o → o < k → idx' o = idx o) → tb_in g p idx' N → tg_fr g p Bf idx' 4 F0 → tg_tr g p idx' μ') ∧ (μ.1 11 0 1 = 1 → μ'.1 11 0 1 = 1) ∧ zq_fr (tg_S k) μ μ' ∧ μ'.1 11 0 0 = μ.1 11 0 0
theorem tg_Cg {g : gq_G} {k : Nat} {μ μ' : za_M} (hC : gq_C g μ) (hf : zq_fr (tg_S k) μ μ') : gq_C g μ' := gq_C_fr hC hf (fun b j h q => by rcases q with q | q | q <;> omega)
theorem tg_Nm {k : Nat} {μ μ' : za_M} {N Bf : Nat → Nat} (h : tg_N μ N Bf) (hl : tg_le μ μ') (hf : zq_fr (tg_S k) μ μ') : tg_N μ' N Bf := by
  intro s hs
  obtain ⟨h1, h2, h3, h4⟩ := h s hs
  rw [hf.1 15 0 (fun q => by rcases q with q | q | q <;> omega), hf.1 16 0 (fun q => by rcases q with q | q | q <;> omega)]
  exact ⟨h1, h2, h3, Nat.le_trans h4 (hl.1 s hs).1⟩
/-- nothing but boards has changed -/
theorem tg_same {g : gq_G} {μ μ' : za_M} (h : zq_fr (fun b _ => b = 18 ∨ b = 19) μ μ') : tg_K μ' = tg_K μ ∧ tg_T μ' = tg_T μ ∧ tg_C μ' = tg_C μ ∧ (tg_I g μ → tg_I g μ') ∧ μ'.1 11 0 = μ.1 11 0 := by
  have e12 : μ'.1 12 0 = μ.1 12 0 := h.1 12 0 (by decide)
  have e11 : μ'.1 11 0 = μ.1 11 0 := h.1 11 0 (by decide)
  have e14 : ∀ s, μ'.2 14 s = μ.2 14 s := fun s => h.2 14 s (fun q => absurd q (show ¬ ((14 : Nat) = 18 ∨ (14 : Nat) = 19) by decide))
  have eK : tg_K μ' = tg_K μ := by funext s; unfold tg_K; rw [e12]
  have eT : tg_T μ' = tg_T μ := by funext s i; unfold tg_T; rw [e14]
  have eC : tg_C μ' = tg_C μ := by unfold tg_C; rw [e11]
  refine ⟨eK, eT, eC, fun hI => ?_, e11⟩
  unfold tg_I tg_ok tg_so at hI ⊢
  rw [eK, eT, eC, e11, e12]
  exact hI
/-- places with a step to them and a step from them -/
theorem gr_all {g : gq_G} (hg : gq_ok g) {p : Nat} (hp : p < gq_np g) {c : Nat → gr_T} (hc : ∀ o, 1 ≤ o → o ≤ gq_m g p → ∀ a b, c o a b = true → a < 6 ∧ b < 6) (v a b : Nat) (h1 : gr_E g p c a v) (h2 : gr_E g p c v b) : bp_S (fun _ => False) g p 0 (gq_m g p + 1) v := by
  obtain ⟨_, l1, k1⟩ := h1
  obtain ⟨_, l2, k2⟩ := h2
  have hv : 8 ≤ v := Classical.byContradiction fun hlt => by
    rcases k1 with k1 | k1
    · rcases k2 with k2 | k2
      · exact (hg.2.2.2.2.2 p a v hp (by omega) k1).2.2 (hg.2.2.2.2.2 p v b hp l1 k2).1.2
      · omega
    · omega
  refine Or.inr ?_
  rcases k1 with k1 | ⟨q1, q2, q3, q4⟩
  · obtain ⟨⟨z1, z2⟩, _⟩ := (hg.2.2.2.2.2 p a v hp (by omega) k1).2
    have := (hg.2.2.1 _ ((hg.2.2.2.2.1 p hp).2 _ z1)).1
    exact ⟨by omega, by omega, z1, by omega, by omega⟩
  · have := (hc _ q1 q2 _ _ q4).2
    exact ⟨by omega, by omega, by omega, by omega, this⟩
theorem gr_Enm {g : gq_G} {p : Nat} (hm : gq_m g p ≤ 3) (c : Nat → gr_T) (x y : Nat) : gr_En g p c (gq_m g p + 1) x y ↔ gr_E g p c x y := by
  unfold gr_En gr_E
  constructor
  · rintro ⟨h1, h2, h3 | ⟨a, b, d, e⟩⟩
    · exact ⟨h1, h2, Or.inl h3⟩
    · exact ⟨h1, h2, Or.inr ⟨a, d, e⟩⟩
  · rintro ⟨h1, h2, h3 | ⟨a, d, e⟩⟩
    · exact ⟨h1, h2, Or.inl h3⟩
    · exact ⟨h1, h2, Or.inr ⟨a, by omega, d, e⟩⟩
theorem tg_bd {g : gq_G} (hg : gq_ok g) {p : Nat} (hp : p < gq_np g) {c : Nat → gr_T} (hc : ∀ o, 1 ≤ o → o ≤ gq_m g p → ∀ a b, c o a b = true → a < 6 ∧ b < 6) {μ : za_M} {J : Nat} (h : bd_S μ J (bp_S (fun _ => False) g p 0 (gq_m g p + 1)) (gr_En g p c (gq_m g p + 1))) :
    (∀ x y, x < 32 → (bt (μ.1 19 J x) y = true ↔ gr_P g p c x y)) ∧ (μ.1 18 J 1 = 0 ∨ μ.1 18 J 1 = 1) ∧ (μ.1 18 J 1 = 1 ↔ gr_ci g p c) := by
  have h := bd_Sc h (fun _ => Iff.rfl) (gr_Enm (hg.2.2.2.2.1 p hp).1 c)
  have ha := gr_all hg hp hc
  exact ⟨fun x y hx => (h.1 x y hx).trans (pq_all ha x y).symm, h.2.1, h.2.2.trans (pq_circle ha).symm⟩
theorem tg_trc {g : gq_G} {p : Nat} {idx idx' : Nat → Nat} {μ : za_M} (h : ∀ o, 1 ≤ o → o ≤ gq_m g p → idx' o = idx o) (ht : tg_tr g p idx μ) : tg_tr g p idx' μ := by
  have hc : ∀ o, 1 ≤ o → o ≤ gq_m g p → tb_c g p idx (tg_T μ) o = tb_c g p idx' (tg_T μ) o := fun o a b => by unfold tb_c; rw [h o a b]
  obtain ⟨⟨j, h1, h2⟩, h3⟩ := ht
  exact ⟨⟨j, h1, gr_isc hc h2⟩, fun q => h3 ((gr_cic hc).mpr q)⟩
set_option maxHeartbeats 16000000 in
theorem ct_T_combine : ∀ (n : Nat) {Γ : zk_G} {d p h : Nat} {x z f : Int32} {idx N Bf : Nat → Nat} {F0 : Prop} {μ : za_M} {g : gq_G}, gq_ok g → gq_C g μ → tg_I g μ → tg_N μ N Bf → x = nI p → z = nI (h + 1) → h + n = gq_m g p → p < gq_np g → (f = 0 ∨ f = 1) → (f = 1 ↔ tg_fr g p Bf idx (h + 1) F0) → (∀ o, 1 ≤ o → o < h + 1 → idx o < N (gq_sy g p o)) → bd_S μ h (bp_S (fun _ => False) g p 0 (h + 1)) (gr_En g p (tb_c g p idx (tg_T μ)) (h + 1)) → n + 4 ≤ d →
    zk_Ct zt Γ zm_T_combine d 0 0 [za_r 11 0, za_r 1 0, za_i x, za_i z, za_i f] μ (fun r μ' => r = none ∧ tg_post g p N Bf F0 (h + 1) idx μ μ') (fun _ _ => False) := by
  intro n
  induction n with
  | zero =>
    intro Γ d p h x z f idx N Bf F0 μ g hg hC hI hN hx hz hm0 hp hf hf1 hidx hB hd
    have hm : h = gq_m g p := by omega
    subst hm
    have hm3 := (hg.2.2.2.2.1 p hp).1
    have hs8 := gq_sy8 hg hp (Nat.zero_le _)
    obtain ⟨c1, c2, c3, c4, c5, c6⟩ := gq_Cp hg hC hx hp
    have hz1 : z - 1 = nI (gq_m g p) := by rw [hz, nI_s1]
    have hin : tb_in g p idx (tg_K μ) := fun o a b => Nat.lt_of_lt_of_le (hidx o a (by omega)) (hN _ (gq_sy8 hg hp b)).2.2.2
    refine zs_T_combine (Nat.le_of_ble_eq_true rfl) (by omega) (fun ZZ run => ?_)
    refine run [] 60 0 _ _ _ _ ?_
    have stay : (¬ μ.1 11 0 1 = 0 ∨ f = 0) → (none : Option za_V) = none ∧ tg_post g p N Bf F0 (gq_m g p + 1) idx μ μ := by
      intro q
      refine ⟨rfl, hI, tb_rf, fun q1 idx' z1 z2 z3 => ?_, id, zq_rf, rfl⟩
      rcases q with q | q
      · exact absurd q1 q
      · refine absurd (hf1.mpr ?_) (by rw [q]; decide)
        rcases z3 with z3 | ⟨o, a, b, c, e⟩
        · exact Or.inl z3
        · exact Or.inr ⟨o, a, by omega, c, by rw [← z1 o a (by omega)]; exact e⟩
    refine ⟨fun h10 => ⟨c2, fun _ => ⟨fun hq => ?_, fun hq => ?_⟩, fun q => absurd (zn_lt2 c4 hz (Nat.lt_succ_self _) (by omega)) q⟩, fun h10 => ?_⟩
    · exact ⟨rfl, rfl, Nat.le_refl _, Nat.le_refl _, stay (Or.inr hq)⟩
    · have e6 : μ.1 6 x.toNatClampNeg (0 : Int32).toNatClampNeg = nI (gq_sy g p 0) := by rw [zn_c0]; exact c5 0 (Nat.zero_le _)
      have hcb : ∀ o, 1 ≤ o → o ≤ gq_m g p → ∀ a b, tb_c g p idx (tg_T μ) o a b = true → a < 6 ∧ b < 6 := fun o oa ob => (gr_L6 hg (hI.2.1.1 _ _ (gq_sy8 hg hp ob) (hin o oa ob))).2
      obtain ⟨B1, B2, B3⟩ := tg_bd hg hp hcb hB
      have hcz : (z - 1).toNatClampNeg = gq_m g p := zn_c hz1 (by omega)
      rw [← hcz] at B1 B2 B3
      refine ⟨c2, zn_i (k := 0) rfl (by decide) (by decide), zn_i hz1 (by omega) (by decide), ?_⟩
      refine ⟨d - 1, 0, 0, _, _, by omega, Nat.le_refl _, Nat.le_refl _, ct_T_keep (idx := idx) hg hI h10 e6 hp hin B1 B2 B3 (by omega), ?_, fun _ _ h => h.elim⟩
      rintro r μ2 ⟨rfl, k1, k2, k3, k4, k5⟩
      refine ⟨rfl, rfl, Nat.le_refl _, Nat.le_refl _, rfl, k1, k2, fun q idx' z1 z2 z3 => tg_trc (fun o a b => z1 o a (by omega)) (k3 q), fun q => absurd (h10.symm.trans q) (by decide), zq_up k4 (fun b j q => q.elim Or.inl (fun q => Or.inr (Or.inl q))), k5⟩
    · exact ⟨rfl, rfl, Nat.le_refl _, Nat.le_refl _, stay (Or.inl h10)⟩
  | succ n IH =>
    intro Γ d p h x z f idx N Bf F0 μ g hg hC hI hN hx hz hm0 hp hf hf1 hidx hB hd
    have hm3 := (hg.2.2.2.2.1 p hp).1
    have hle : h + 1 ≤ gq_m g p := by omega
    have hs8 := gq_sy8 hg hp hle
    obtain ⟨c1, c2, c3, c4, c5, c6⟩ := gq_Cp hg hC hx hp
    have hcz : z.toNatClampNeg = h + 1 := zn_c hz (by omega)
    have hz1 : z - 1 = nI h := by rw [hz, nI_s1]
    have hcz1 : (z - 1).toNatClampNeg = h := zn_c hz1 (by omega)
    have e6 : μ.1 6 x.toNatClampNeg z.toNatClampNeg = nI (gq_sy g p (h + 1)) := by rw [hcz]; exact c5 _ hle
    obtain ⟨n1, n2, n3, n4⟩ := hN _ hs8
    have hk10 := (hI.1.1 _ hs8).2
    refine zs_T_combine (Nat.le_of_ble_eq_true rfl) (by omega) (fun ZZ run => ?_)
    have loop := zn_for (σ := za_M) (N := N (gq_sy g p (h + 1)))
      (P := fun i μ1 => ∀ (w y l6 l7 : Int32), w = nI (gq_sy g p (h + 1)) → y = nI i → ZZ 103 [some (za_r 11 0), some (za_r 1 0), some (za_i x), some (za_i z), some (za_i f), some (za_i w), some (za_i l6), some (za_i l7), some (za_i y)] [] μ1 (0, 0))
      (I := fun i μ1 => tg_I g μ1 ∧ tg_le μ μ1 ∧ (μ1.1 11 0 1 = 0 → ∀ idx', (∀ o, 1 ≤ o → o < h + 1 → idx' o = idx o) → tb_in g p idx' N → tg_fr g p Bf idx' 4 F0 → idx' (h + 1) < i → tg_tr g p idx' μ1) ∧ (μ.1 11 0 1 = 1 → μ1.1 11 0 1 = 1) ∧ zq_fr (tg_S (h + 1)) μ μ1 ∧ μ1.1 11 0 0 = μ.1 11 0 0)
      (fun μ1 hh w y l6 l7 hw hy => by
        obtain ⟨i1, i2, i3, i4, i5, i6⟩ := hh
        have hN1 := tg_Nm hN i2 i5
        have hcw : w.toNatClampNeg = gq_sy g p (h + 1) := zn_c hw (by omega)
        have e15 : μ1.1 15 0 w.toNatClampNeg = nI (N (gq_sy g p (h + 1))) := by rw [hcw]; exact (hN1 _ hs8).1
        refine run [103] 100 103 _ _ _ _ ?_
        refine ⟨zn_i hw hs8 (by decide), fun _ => ?_, fun q => absurd (by rw [e15, hy]; exact Int32.le_refl _) q⟩
        exact ⟨rfl, rfl, Nat.le_refl _, Nat.le_refl _, rfl, i1, i2, fun q idx' z1 z2 z3 => i3 q idx' z1 z2 z3 (z2 (h + 1) (by omega) hle), i4, i5, i6⟩)
      (fun i μ1 hi hh ih w y l6 l7 hw hy => by
        obtain ⟨i1, i2, i3, i4, i5, i6⟩ := hh
        have hN1 := tg_Nm hN i2 i5
        have hC1 := tg_Cg hC i5
        have hcw : w.toNatClampNeg = gq_sy g p (h + 1) := zn_c hw (by omega)
        have hcy : y.toNatClampNeg = i := zn_c hy (by omega)
        have bw : vp_in w 8 := zn_i hw hs8 (by decide)
        have bz : vp_in z 4 := zn_i hz (by omega) (by decide)
        have e15 : μ1.1 15 0 w.toNatClampNeg = nI (N (gq_sy g p (h + 1))) := by rw [hcw]; exact (hN1 _ hs8).1
        have hBh : bd_S μ1 h (bp_S (fun _ => False) g p 0 (h + 1)) (gr_En g p (tb_c g p idx (tg_T μ)) (h + 1)) := bd_Sm hB (fun j _ => by rw [i5.1 19 h (fun q => by rcases q with q | q | q <;> omega)]) (by rw [i5.1 18 h (fun q => by rcases q with q | q | q <;> omega)])
        refine run [103] 100 103 _ _ _ _ ?_
        refine ⟨bw, fun q => absurd q (zn_ge hy e15 hi (by omega)), fun _ => ⟨bz, zn_i hz1 (by omega) (by decide), ?_⟩⟩
        refine ⟨d - 1, 0, 0, _, _, by omega, Nat.le_refl _, Nat.le_refl _, ct_B_startFrom' (J := h + 1) (J' := h) hcz hcz1 (by omega) hBh.2.1 (by omega), ?_, fun _ _ h => h.elim⟩
        rintro r μ2 ⟨rfl, s1, s2, s3⟩
        have hB2 : bd_S μ2 (h + 1) _ _ := bd_Sm hBh s1 s2
        have a14 : μ2.2 14 (gq_sy g p (h + 1)) i = μ1.2 14 (gq_sy g p (h + 1)) i := by rw [s3.2 14 _ (fun q => absurd q.1 (by decide))]
        refine ⟨bz, bw, zn_i hy (by omega) (by decide), ?_⟩
        refine ⟨d - 1, 0, 0, _, _, by omega, Nat.le_refl _, Nat.le_refl _, ct_B_lay'' (J := h + 1) hcz hz (by omega) (by omega), ?_, fun _ _ h => h.elim⟩
        rintro r μ3 ⟨rfl, l1, l2⟩
        have l1 : ∀ j, j < 32 → μ3.1 19 (h + 1) j = bd_lay (μ2.1 19 (h + 1)) (h + 1) (μ1.2 14 (gq_sy g p (h + 1)) i) j := fun j hj => by
          rw [l1 j hj]
          show bd_lay _ _ (μ2.2 14 w.toNatClampNeg y.toNatClampNeg) j = _
          rw [hcw, hcy, a14]
        refine ⟨bz, ?_⟩
        refine ⟨d - 1, 0, 0, _, _, by omega, Nat.le_refl _, Nat.le_refl _, ct_B_join'' (J := h + 1) hcz hz (by omega) (by omega), ?_, fun _ _ h => h.elim⟩
        rintro r μ4 ⟨rfl, j1, j2, j3⟩
        have hfr : zq_fr (fun b j => (b = 18 ∨ b = 19) ∧ j = h + 1) μ1 μ4 := zq_tr (zq_tr s3 (zq_up l2 (fun _ _ q => ⟨Or.inr q.1, q.2⟩))) j3
        obtain ⟨eK, eT, eC, eI, e11⟩ := tg_same (g := g) (zq_up hfr (fun _ _ q => q.1) : zq_fr (fun b _ => b = 18 ∨ b = 19) μ1 μ4)
        have f4 : zq_fr (tg_S (h + 1)) μ μ4 := zq_tr i5 (zq_up hfr (fun b j q => Or.inr (Or.inr ⟨q.1, by omega⟩)))
        have g14 : tg_le μ1 μ4 := by unfold tg_le; rw [eK, eT, eC]; exact tb_rf
        have g04 : tg_le μ μ4 := tb_tt i2 g14
        have hN4 := tg_Nm hN g04 f4
        have hI4 := eI i1
        have hL : gr_L g (gq_sy g p (h + 1)) (tg_T μ1 (gq_sy g p (h + 1)) i) := i1.2.1.1 _ _ hs8 (Nat.lt_of_lt_of_le hi (hN1 _ hs8).2.2.2)
        have hL6 := (gr_L6 hg hL).2
        -- the board of this part
        have hB4 : bd_S μ4 (h + 1) (bp_S (fun _ => False) g p 0 (h + 1 + 1)) (gr_En g p (tb_c g p (fun o => if o = h + 1 then i else idx o) (tg_T μ4)) (h + 1 + 1)) := by
          refine bd_Sc (bd_SJ (by omega) hB2 (fun v q => ?_) l1 (by rw [l2.1 18 (h + 1) (fun q => absurd q.1 (by decide))]) j1 j2) (fun v => ?_) (fun a b => ?_)
          · rcases q with q | q
            · exact q.elim
            · omega
          · unfold bp_S
            constructor
            · rintro ((q | q) | q)
              · exact Or.inl q
              · exact Or.inr (by omega)
              · exact Or.inr (by omega)
            · rintro (q | q)
              · exact Or.inl (Or.inl q)
              · by_cases e : v / 8 = h + 1
                · exact Or.inr (by omega)
                · exact Or.inl (Or.inr (by omega))
          · have hold : ∀ o, 1 ≤ o → o < h + 1 → o ≤ gq_m g p → tb_c g p idx (tg_T μ) o = tb_c g p (fun o => if o = h + 1 then i else idx o) (tg_T μ4) o := fun o oa ob oc => by
              unfold tb_c
              dsimp only
              rw [if_neg (by omega), eT]
              exact ((i2.1 _ (gq_sy8 hg hp oc)).2 _ (Nat.lt_of_lt_of_le (hidx o oa ob) (hN _ (gq_sy8 hg hp oc)).2.2.2)).symm
            have hnew : tb_c g p (fun o => if o = h + 1 then i else idx o) (tg_T μ4) (h + 1) = tg_g (μ1.2 14 (gq_sy g p (h + 1)) i) := by
              unfold tb_c
              dsimp only
              rw [if_pos rfl, eT]
              rfl
            have hgb : ∀ u v, u < 8 → v < 8 → (tg_g (μ1.2 14 (gq_sy g p (h + 1)) i) u v = true ↔ (u < 6 ∧ bl (μ1.2 14 (gq_sy g p (h + 1)) i) (8 * u + v) = true)) := fun u v hu hv => by
              constructor
              · intro q
                refine ⟨(hL6 u v q).1, ?_⟩
                unfold tg_g at q
                rw [Bool.and_eq_true, Bool.and_eq_true] at q
                exact q.2.2
              · rintro ⟨q1, q2⟩
                unfold tg_g
                rw [decide_eq_true hu, decide_eq_true hv, Bool.true_and, Bool.true_and]
                exact q2
            unfold gr_En bd_F
            constructor
            · rintro (⟨q1, q2, q3 | ⟨q3, q4, q5, q6, q7⟩⟩ | ⟨q1, q2, q3, q4⟩)
              · exact ⟨q1, q2, Or.inl q3⟩
              · exact ⟨q1, q2, Or.inr ⟨q3, by omega, q5, q6, by rw [← hold _ q3 q4 q5]; exact q7⟩⟩
              · refine ⟨by omega, by omega, Or.inr ⟨by omega, by omega, by omega, by omega, ?_⟩⟩
                rw [q1, hnew, hgb _ _ (by omega) (by omega)]
                exact ⟨q2, q4⟩
            · rintro ⟨q1, q2, q3 | ⟨q3, q4, q5, q6, q7⟩⟩
              · exact Or.inl ⟨q1, q2, Or.inl q3⟩
              · by_cases e : a / 8 = h + 1
                · rw [e, hnew, hgb _ _ (by omega) (by omega)] at q7
                  exact Or.inr ⟨e, q7.1, by omega, q7.2⟩
                · exact Or.inl ⟨q1, q2, Or.inr ⟨q3, by omega, q5, q6, by rw [hold _ q3 (by omega) q5]; exact q7⟩⟩
        have hfr1 : ∀ f' : Int32, (f' = 1 ↔ (f = 1 ∨ Bf (gq_sy g p (h + 1)) ≤ i)) → (f' = 1 ↔ tg_fr g p Bf (fun o => if o = h + 1 then i else idx o) (h + 1 + 1) F0) := by
          intro f' q
          rw [q, hf1]
          unfold tg_fr
          constructor
          · rintro ((q | ⟨o, a, b, c, e⟩) | q)
            · exact Or.inl q
            · exact Or.inr ⟨o, a, by omega, c, by dsimp only; rw [if_neg (by omega)]; exact e⟩
            · exact Or.inr ⟨h + 1, by omega, by omega, hle, by dsimp only; rw [if_pos rfl]; exact q⟩
          · rintro (q | ⟨o, a, b, c, e⟩)
            · exact Or.inl (Or.inl q)
            · by_cases eo : o = h + 1
              · subst eo
                dsimp only at e
                rw [if_pos rfl] at e
                exact Or.inr e
              · dsimp only at e
                rw [if_neg eo] at e
                exact Or.inl (Or.inr ⟨o, a, by omega, c, e⟩)
        have hidx1 : ∀ o, 1 ≤ o → o < h + 1 + 1 → (fun o => if o = h + 1 then i else idx o) o < N (gq_sy g p o) := fun o a b => by
          dsimp only
          by_cases e : o = h + 1
          · rw [if_pos e, e]; exact hi
          · rw [if_neg e]; exact hidx o a (by omega)
        have call : ∀ f' : Int32, (f' = 0 ∨ f' = 1) → (f' = 1 ↔ (f = 1 ∨ Bf (gq_sy g p (h + 1)) ≤ i)) → zk_Ct zt Γ zm_T_combine (d - 1) 0 0 [za_r 11 0, za_r 1 0, za_i x, za_i (z + 1), za_i f'] μ4 (fun r μ' => r = none ∧ tg_post g p N Bf F0 (h + 1 + 1) (fun o => if o = h + 1 then i else idx o) μ4 μ') (fun _ _ => False) := fun f' q1 q2 => IH hg (tg_Cg hC f4) hI4 hN4 hx (zn_s hz) (by omega) hp q1 (hfr1 f' q2) hidx1 hB4 (by omega)
        have next : ∀ μ', tg_post g p N Bf F0 (h + 1 + 1) (fun o => if o = h + 1 then i else idx o) μ4 μ' → ZZ 103 [some (za_r 11 0), some (za_r 1 0), some (za_i x), some (za_i z), some (za_i f), some (za_i w), some (za_i l6), some (za_i l7), some (za_i (y + 1))] [] μ' (0, 0) := by
          rintro μ' ⟨p1, p2, p3, p4, p5, p6⟩
          refine ih μ' ⟨p1, tb_tt g04 p2, fun q idx' z1 z2 z3 z4 => ?_, fun q => p4 (by rw [e11]; exact i4 q), zq_tr f4 (zq_up p5 (fun b j q => q.elim Or.inl (fun q => Or.inr (q.elim Or.inl (fun q => Or.inr ⟨q.1, by omega⟩))))), ?_⟩ w _ l6 l7 hw (zn_s hy)
          · by_cases e : idx' (h + 1) = i
            · refine p3 q idx' (fun o a b => ?_) z2 z3
              dsimp only
              by_cases eo : o = h + 1
              · rw [if_pos eo, eo]; exact e
              · rw [if_neg eo]; exact z1 o a (by omega)
            · have h01 : μ1.1 11 0 1 = 0 := i1.1.2.2.resolve_right (fun z => absurd ((p4 (by rw [e11]; exact z)).symm.trans q) (by decide))
              have hin' : tb_in g p idx' (tg_K μ1) := fun o a b => Nat.lt_of_lt_of_le (z2 o a b) (hN1 _ (gq_sy8 hg hp b)).2.2.2
              exact tb_trm hg hp hin' (tb_tt g14 p2) (i3 h01 idx' z1 z2 z3 (by omega))
          · rw [p6, e11]; exact i6
        have e16 : μ4.1 16 0 w.toNatClampNeg = nI (Bf (gq_sy g p (h + 1))) := by rw [hcw]; exact (hN4 _ hs8).2.1
        refine ⟨fun hq => ?_, fun hq => ⟨bw, fun hq2 => ?_, fun hq2 => ?_⟩⟩
        · refine ⟨d - 1, 0, 0, _, _, by omega, Nat.le_refl _, Nat.le_refl _, call 1 (Or.inr rfl) ⟨fun _ => Or.inl (zn_or01 hf hq), fun _ => rfl⟩, ?_, fun _ _ h => h.elim⟩
          rintro r μ' ⟨rfl, hpost⟩
          exact next μ' hpost
        · refine ⟨d - 1, 0, 0, _, _, by omega, Nat.le_refl _, Nat.le_refl _, call 0 (Or.inl rfl) ⟨fun q => absurd q (by decide), fun q => q.elim (fun q => absurd (q.symm.trans hq) (by decide)) (fun q => absurd hq2 (zn_nl hy e16 q (by omega)))⟩, ?_, fun _ _ h => h.elim⟩
          rintro r μ' ⟨rfl, hpost⟩
          exact next μ' hpost
        · refine ⟨d - 1, 0, 0, _, _, by omega, Nat.le_refl _, Nat.le_refl _, call 1 (Or.inr rfl) ⟨fun _ => Or.inr (Classical.byContradiction fun q => hq2 (zn_lt2 hy e16 (by omega) (by omega))), fun _ => rfl⟩, ?_, fun _ _ h => h.elim⟩
          rintro r μ' ⟨rfl, hpost⟩
          exact next μ' hpost)
    have start : ∀ (i : Nat), i ≤ N (gq_sy g p (h + 1)) → (∀ idx', (∀ o, 1 ≤ o → o < h + 1 → idx' o = idx o) → tb_in g p idx' N → tg_fr g p Bf idx' 4 F0 → ¬ idx' (h + 1) < i) → ∀ (w y l6 l7 : Int32), w = nI (gq_sy g p (h + 1)) → y = nI i → ZZ 103 [some (za_r 11 0), some (za_r 1 0), some (za_i x), some (za_i z), some (za_i f), some (za_i w), some (za_i l6), some (za_i l7), some (za_i y)] [] μ (0, 0) := fun i hi hv => loop i μ hi ⟨hI, tb_rf, fun _ idx' z1 z2 z3 z4 => absurd z4 (hv idx' z1 z2 z3), id, zq_rf, rfl⟩
    refine run [103] 100 0 _ _ _ _ ?_
    refine ⟨fun h10 => ?_, fun h10 => ?_⟩
    · refine ⟨c2, fun q => absurd q (zn_nl c4 hz hle (by omega)), fun _ => ⟨fun _ => ?_, fun q => absurd (by rw [hz]; exact nI_le (b := 3) (by omega) (by decide)) q⟩⟩
      refine ⟨c2, zn_i hz (by omega) (by decide), c2, ?_⟩
      have zero : ∀ (w l6 l7 : Int32), w = nI (gq_sy g p (h + 1)) → ZZ 103 [some (za_r 11 0), some (za_r 1 0), some (za_i x), some (za_i z), some (za_i f), some (za_i w), some (za_i l6), some (za_i l7), some (za_i 0)] [] μ (0, 0) := fun w l6 l7 hw => start 0 (Nat.zero_le _) (fun _ _ _ _ q => absurd q (Nat.not_lt_zero _)) w 0 l6 l7 hw rfl
      refine ⟨fun _ => ⟨fun _ => zero _ _ _ e6, fun q => absurd rfl q⟩, fun hq => ⟨fun _ => ⟨fun _ => zero _ _ _ e6, fun q => absurd rfl q⟩, fun hq2 => ⟨fun q => absurd q (by decide), fun _ => ⟨zn_i e6 hs8 (by decide), ?_⟩⟩⟩⟩
      have e16 : μ.1 16 0 (μ.1 6 x.toNatClampNeg z.toNatClampNeg).toNatClampNeg = nI (Bf (gq_sy g p (h + 1))) := by rw [zn_c e6 (by omega)]; exact n2
      refine start (Bf (gq_sy g p (h + 1))) n3 (fun idx' z1 z2 z3 z4 => ?_) _ _ _ _ e6 e16
      have hmk : h + 1 = gq_m g p := by
        rw [c4, hz, nI_eq (by omega) (by omega)] at hq
        exact hq
      refine absurd (hf1.mpr ?_) (by rw [hq2]; decide)
      rcases z3 with z3 | ⟨o, a, b, c, e⟩
      · exact Or.inl z3
      · by_cases eo : o = h + 1
        · subst eo; omega
        · exact Or.inr ⟨o, a, by omega, c, by rw [← z1 o a (by omega)]; exact e⟩
    · exact ⟨rfl, rfl, Nat.le_refl _, Nat.le_refl _, rfl, hI, tb_rf, fun q => absurd q h10, id, zq_rf, rfl⟩
