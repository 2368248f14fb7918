/-! the reference: production, depend -/
theorem zn_m1 {n : Nat} {s : Int32} (hn : n < 2 ^ 31) : ¬ (s < 0 ∨ nI n - 1 < s) ↔ ∃ k, k < n ∧ s = nI k := by
  constructor
  · intro h
    have h0 : ¬ s < 0 := fun q => h (Or.inl q)
    obtain ⟨k, hk, rfl⟩ := nI_of h0
    refine ⟨k, ?_, rfl⟩
    cases n with
    | zero => exact absurd (Or.inr (Int32.not_le.mp (fun q => by
        have : nI 0 - 1 < 0 := by decide
        exact absurd (Int32.lt_of_le_of_lt q this) (gq_neg k hk)))) h
    | succ m =>
      refine Classical.byContradiction fun q => h (Or.inr ?_)
      rw [nI_s1]
      exact zn_lt2 rfl rfl (by omega) hk
  · rintro ⟨k, h1, rfl⟩ (q | q)
    · exact gq_neg k (by omega) q
    · cases n with
      | zero => omega
      | succ m =>
        rw [nI_s1] at q
        exact absurd q (zn_nl rfl rfl (by omega) (by omega))
theorem ct_M_isSymbol' {Γ : zk_G} {d n : Nat} {s : Int32} {μ : za_M} (h1 : μ.1 30 0 1 = nI n) (hn : n ≤ 8) (hd : 2 ≤ d) : zk_Ct zt Γ zm_M_isSymbol d 0 0 [za_r 30 0, za_i s] μ (fun r μ' => (∃ v : Int32, r = some (za_i v) ∧ (v = 0 ∨ v = 1) ∧ (v = 1 ↔ ∃ k, k < n ∧ s = nI k)) ∧ μ' = μ) (fun _ _ => False) := by
  refine zs_M_isSymbol (Nat.le_of_ble_eq_true rfl) (by omega) (fun ZZ run => ?_)
  refine run [] 20 0 _ _ _ _ ?_
  refine ⟨d - 1, 0, 0, _, _, by omega, Nat.le_refl _, Nat.le_refl _, ct_M_in (by omega), ?_, fun _ _ h => h.elim⟩
  rintro r μ1 ⟨rfl, rfl⟩
  have key := zn_m1 (n := n) (s := s) (by omega)
  rw [← h1] at key
  by_cases q : s < 0 ∨ μ1.1 30 0 1 - 1 < s
  · rw [if_pos q]
    exact ⟨rfl, Or.inr ⟨rfl, Or.inl rfl⟩, Nat.le_refl _, Nat.le_refl _, ⟨0, rfl, Or.inl rfl, fun z => absurd z (by decide), fun z => absurd q (key.mpr z)⟩, rfl⟩
  · rw [if_neg q]
    exact ⟨rfl, Or.inr ⟨rfl, Or.inr rfl⟩, Nat.le_refl _, Nat.le_refl _, ⟨1, rfl, Or.inr rfl, fun _ => key.mp q, fun _ => rfl⟩, rfl⟩
theorem gq_ap_q {g : gq_G} {p q : Nat} {S : Int32} (h : q ≠ p) : gq_m (gq_ap g p S) q = gq_m g q ∧ (∀ o, gq_sy (gq_ap g p S) q o = gq_sy g q o) := by
  unfold gq_ap
  by_cases e : S = -1
  · rw [if_pos e]; exact ⟨rfl, fun _ => rfl⟩
  · rw [if_neg e]; exact ⟨if_neg h, fun o => if_neg (fun z => h z.1)⟩
theorem gq_ap_n {g : gq_G} {p : Nat} {S : Int32} : gq_ns (gq_ap g p S) = gq_ns g ∧ gq_np (gq_ap g p S) = gq_np g ∧ gq_at (gq_ap g p S) = gq_at g ∧ gq_dn (gq_ap g p S) = gq_dn g ∧ gq_nd (gq_ap g p S) = gq_nd g := by
  unfold gq_ap
  by_cases e : S = -1
  · rw [if_pos e]; exact ⟨rfl, rfl, rfl, rfl, rfl⟩
  · rw [if_neg e]; exact ⟨rfl, rfl, rfl, rfl, rfl⟩
theorem gq_ap_m {g : gq_G} {p : Nat} {S : Int32} (h : S ≠ -1) : gq_m (gq_ap g p S) p = gq_m g p + 1 ∧ gq_sy (gq_ap g p S) p (gq_m g p + 1) = S.toNatClampNeg ∧ ∀ o, o ≠ gq_m g p + 1 → gq_sy (gq_ap g p S) p o = gq_sy g p o := by
  unfold gq_ap
  rw [if_neg h]
  exact ⟨if_pos rfl, if_pos ⟨rfl, rfl⟩, fun o ho => if_neg (fun z => ho z.2)⟩
theorem gq_ap_0 {g : gq_G} {p : Nat} {S : Int32} (h : S = -1) : gq_ap g p S = g := by unfold gq_ap; rw [if_pos h]
theorem gq_pt_c {g : gq_G} (hg : gq_ok g) {S : Int32} (h : gq_pt g S) (hS : S ≠ -1) : S = nI S.toNatClampNeg := by
  obtain ⟨s, h1, h2⟩ := h.resolve_left hS
  have := hg.1
  rw [zn_c h2 (by omega)]
  exact h2
theorem gq_pr_occ {g : gq_G} (hg : gq_ok g) {h : Nat} {H S1 S2 S3 : Int32} (hP : gs_P g H S1 S2 S3 h) : ∀ o, o < 4 → (if o = 0 then H else if o = 1 then S1 else if o = 2 then S2 else S3) = if o ≤ gq_m (gq_pr g h S1 S2 S3) (gq_np g) then nI (gq_sy (gq_pr g h S1 S2 S3) (gq_np g) o) else -1 := by
  obtain ⟨h1, h2, p1, p2, p3, g1, g2⟩ := hP
  have m0 : gq_m (gq_addP g h) (gq_np g) = 0 := if_pos rfl
  have s0 : ∀ o, gq_sy (gq_addP g h) (gq_np g) o = h := fun o => if_pos rfl
  intro o ho
  unfold gq_pr
  by_cases e1 : S1 = -1
  · rw [gq_ap_0 e1, gq_ap_0 (g1 e1), gq_ap_0 (g2 (g1 e1)), m0, s0, e1, g1 e1, g2 (g1 e1)]
    have hc : o = 0 ∨ o = 1 ∨ o = 2 ∨ o = 3 := by omega
    rcases hc with rfl | rfl | rfl | rfl <;> simp [h2]
  · have a1 := gq_ap_m (g := gq_addP g h) (p := gq_np g) e1
    rw [m0] at a1
    have c1 := gq_pt_c hg p1 e1
    by_cases e2 : S2 = -1
    · rw [gq_ap_0 e2, gq_ap_0 (g2 e2), a1.1, e2, g2 e2]
      have hc : o = 0 ∨ o = 1 ∨ o = 2 ∨ o = 3 := by omega
      rcases hc with rfl | rfl | rfl | rfl
      · rw [a1.2.2 0 (by decide), s0]; simp [h2]
      · rw [a1.2.1]; simp; exact c1
      · simp
      · simp
    · have a2 := gq_ap_m (g := gq_ap (gq_addP g h) (gq_np g) S1) (p := gq_np g) e2
      rw [a1.1] at a2
      have c2 := gq_pt_c hg p2 e2
      by_cases e3 : S3 = -1
      · rw [gq_ap_0 e3, a2.1, e3]
        have hc : o = 0 ∨ o = 1 ∨ o = 2 ∨ o = 3 := by omega
        rcases hc with rfl | rfl | rfl | rfl
        · rw [a2.2.2 0 (by decide), a1.2.2 0 (by decide), s0]; simp [h2]
        · rw [a2.2.2 1 (by decide), a1.2.1]; simp; exact c1
        · rw [a2.2.1]; simp; exact c2
        · simp
      · have a3 := gq_ap_m (g := gq_ap (gq_ap (gq_addP g h) (gq_np g) S1) (gq_np g) S2) (p := gq_np g) e3
        rw [a2.1] at a3
        have c3 := gq_pt_c hg p3 e3
        rw [a3.1]
        have hc : o = 0 ∨ o = 1 ∨ o = 2 ∨ o = 3 := by omega
        rcases hc with rfl | rfl | rfl | rfl
        · rw [a3.2.2 0 (by decide), a2.2.2 0 (by decide), a1.2.2 0 (by decide), s0]; simp [h2]
        · rw [a3.2.2 1 (by decide), a2.2.2 1 (by decide), a1.2.1]; simp; exact c1
        · rw [a3.2.2 2 (by decide), a2.2.1]; simp; exact c2
        · rw [a3.2.1]; simp; exact c3
theorem gq_M_pr {g : gq_G} (hg : gq_ok g) {h : Nat} {H S1 S2 S3 : Int32} (hP : gs_P g H S1 S2 S3 h) {μ μ' : za_M} (hM : gq_M g μ) (h30 : ∀ i, μ'.1 30 0 i = if i = 4 then nI (gq_np g + 1) else μ.1 30 0 i) (h31 : μ'.1 31 0 = μ.1 31 0) (h32 : μ'.1 32 0 = μ.1 32 0) (h34 : μ'.1 34 0 = μ.1 34 0)
    (h33 : ∀ i, μ'.1 33 0 i = if i / 4 = gq_np g then (if i % 4 = 0 then H else if i % 4 = 1 then S1 else if i % 4 = 2 then S2 else S3) else μ.1 33 0 i) : gq_M (gq_pr g h S1 S2 S3) μ' := by
  obtain ⟨n1, n2, n3, n4, n5⟩ := gq_ap_n (g := gq_ap (gq_ap (gq_addP g h) (gq_np g) S1) (gq_np g) S2) (p := gq_np g) (S := S3)
  obtain ⟨k1, k2, k3, k4, k5⟩ := gq_ap_n (g := gq_ap (gq_addP g h) (gq_np g) S1) (p := gq_np g) (S := S2)
  obtain ⟨j1, j2, j3, j4, j5⟩ := gq_ap_n (g := gq_addP g h) (p := gq_np g) (S := S1)
  have ens : gq_ns (gq_pr g h S1 S2 S3) = gq_ns g := n1.trans (k1.trans j1)
  have enp : gq_np (gq_pr g h S1 S2 S3) = gq_np g + 1 := n2.trans (k2.trans j2)
  have eat : gq_at (gq_pr g h S1 S2 S3) = gq_at g := n3.trans (k3.trans j3)
  have edn : gq_dn (gq_pr g h S1 S2 S3) = gq_dn g := n4.trans (k4.trans j4)
  have end' : gq_nd (gq_pr g h S1 S2 S3) = gq_nd (gq_addP g h) := n5.trans (k5.trans j5)
  unfold gq_M
  rw [ens, enp, eat, edn, end', h31, h32, h34]
  refine ⟨by rw [h30]; exact hM.1, by rw [h30]; rfl, hM.2.2.1, fun p o hp ho => ?_, fun p x hp hx => ?_⟩
  · rw [h33, show (4 * p + o) / 4 = p by omega, show (4 * p + o) % 4 = o by omega]
    by_cases e : p = gq_np g
    · rw [if_pos e, e]
      exact gq_pr_occ hg hP o ho
    · rw [if_neg e, hM.2.2.2.1 p o (by omega) ho]
      have q3 := gq_ap_q (g := gq_ap (gq_ap (gq_addP g h) (gq_np g) S1) (gq_np g) S2) (p := gq_np g) (S := S3) e
      have q2 := gq_ap_q (g := gq_ap (gq_addP g h) (gq_np g) S1) (p := gq_np g) (S := S2) e
      have q1 := gq_ap_q (g := gq_addP g h) (p := gq_np g) (S := S1) e
      have em : gq_m (gq_pr g h S1 S2 S3) p = gq_m g p := (q3.1.trans (q2.1.trans q1.1)).trans (if_neg e)
      have es : gq_sy (gq_pr g h S1 S2 S3) p o = gq_sy g p o := ((q3.2 o).trans ((q2.2 o).trans (q1.2 o))).trans (if_neg e)
      rw [em, es]
  · rw [hM.2.2.2.2 p x hp hx]
    show _ = if p < gq_np g + 1 then (if p = gq_np g then 0 else gq_nd g p x) else 0
    by_cases e : p < gq_np g
    · rw [if_pos e, if_pos (by omega), if_neg (by omega)]
    · rw [if_neg e]
      by_cases e2 : p = gq_np g
      · rw [if_pos (by omega), if_pos e2]
      · rw [if_neg (by omega)]
set_option maxHeartbeats 16000000 in
theorem ct_M_production {Γ : zk_G} {d : Nat} {H S1 S2 S3 : Int32} {μ : za_M} {g : gq_G} (hg : gq_ok g) (h : gm g μ) (hd : 3 ≤ d) : zk_Ct zt Γ zm_M_production d 0 0 [za_r 30 0, za_i H, za_i S1, za_i S2, za_i S3] μ
    (fun r μ' => (∃ v : Int32, r = some (za_i v) ∧ ((∃ k, gs_P g H S1 S2 S3 k ∧ gq_np g < 16 ∧ v = nI (gq_np g) ∧ μ'.1 30 0 0 = 0 ∧ gm (gq_pr g k S1 S2 S3) μ') ∨ (¬ (∃ k, gs_P g H S1 S2 S3 k) ∧ μ'.1 30 0 0 = 1 ∧ gm g μ') ∨ ((∃ k, gs_P g H S1 S2 S3 k) ∧ ¬ gq_np g < 16 ∧ μ'.1 30 0 0 = 2 ∧ gm g μ'))) ∧ zq_fr (fun b _ => 30 ≤ b) μ μ') (fun _ _ => False) := by
  have hns : gq_ns g ≤ 8 := hg.1
  have hnp : gq_np g ≤ 16 := hg.2.1
  have e1 : μ.1 30 0 1 = nI (gq_ns g) := h.1.1
  have e4 : μ.1 30 0 4 = nI (gq_np g) := h.1.2.1
  refine zs_M_production (Nat.le_of_ble_eq_true rfl) (by omega) (fun ZZ run => ?_)
  -- added
  have c99 : (∃ k, gs_P g H S1 S2 S3 k) → gq_np g < 16 → ∀ v5 : Int32, ZZ 99 [some (za_r 30 0), some (za_i H), some (za_i S1), some (za_i S2), some (za_i S3), some (za_i v5)] [] (gm_t μ 0) (0, 0) := by
    rintro ⟨k, hP⟩ hlt v5
    have hM1 := (gm_tg (t := 0) h).1
    have f4 : (gm_t μ 0).1 30 0 4 = nI (gq_np g) := hM1.2.1
    have i0 : (4 : Int32) * nI (gq_np g) = nI (4 * gq_np g) := pk_mul 4 _
    have i1 : (4 : Int32) * nI (gq_np g) + 1 = nI (4 * gq_np g + 1) := by rw [i0]; exact nI_1 _
    have i2 : (4 : Int32) * nI (gq_np g) + 2 = nI (4 * gq_np g + 2) := by rw [i0]; exact nI_add _ 2
    have i3 : (4 : Int32) * nI (gq_np g) + 3 = nI (4 * gq_np g + 3) := by rw [i0]; exact nI_add _ 3
    have v : ∀ j, j < 4 → vp_in (nI (4 * gq_np g + j)) 64 := fun j hj => zn_in (by omega) (by decide)
    have cl : ∀ j, j < 4 → (nI (4 * gq_np g + j)).toNatClampNeg = 4 * gq_np g + j := fun j hj => zn_cl (by omega)
    refine run [] 80 99 _ _ _ _ ?_
    suffices post : ∀ m : Int32, m = nI (gq_np g) → ∀ f : Nat → Nat → Nat → Int32, (∀ b j, b ≠ 33 → f b j = (gm_t μ 0).1 b j) → f 30 0 4 = m → vp_in (4 * m) 64 ∧ ∀ f0, za_u (gm_t μ 0).1 33 0 ((4 : Int32) * m).toNatClampNeg H = f0 → f0 30 0 4 = m → vp_in (4 * m + 1) 64 ∧ ∀ f1, za_u f0 33 0 ((4 : Int32) * m + 1).toNatClampNeg S1 = f1 → f1 30 0 4 = m → vp_in (4 * m + 2) 64 ∧ ∀ f2, za_u f1 33 0 ((4 : Int32) * m + 2).toNatClampNeg S2 = f2 → f2 30 0 4 = m → vp_in (4 * m + 3) 64 ∧ ∀ f3, za_u f2 33 0 ((4 : Int32) * m + 3).toNatClampNeg S3 = f3 → f3 30 0 4 = m → ∀ f4', za_u f3 30 0 4 (m + 1) = f4' → (∃ (d' mc' ms' : Nat) (post : Option za_V → za_M → Prop) (px : Nat → za_M → Prop), d' < d ∧ 0 + mc' ≤ 0 ∧ 0 + ms' ≤ 0 ∧ zk_Ct zt Γ zm_M_forget d' mc' ms' [za_r 30 0] (f4', (gm_t μ 0).2) post px ∧ (∀ r μ2, post r μ2 → r = none ∧ (((∃ k, gs_P g H S1 S2 S3 k ∧ gq_np g < 16 ∧ μ2.1 30 0 4 - 1 = nI (gq_np g) ∧ μ2.1 30 0 0 = 0 ∧ gm (gq_pr g k S1 S2 S3) μ2)) ∧ zq_fr (fun b _ => 30 ≤ b) μ μ2) ∧ 0 + mc' ≤ 0 ∧ 0 + ms' ≤ 0) ∧ (∀ E μ2, px E μ2 → False)) from ?_
    · have hne : (30 : Nat) ≠ 33 := by decide
      obtain ⟨p0, q0⟩ := post _ f4 (gm_t μ 0).1 (fun _ _ _ => rfl) rfl
      obtain ⟨p1, q1⟩ := q0 _ rfl (by rw [za_u_b hne])
      obtain ⟨p2, q2⟩ := q1 _ rfl (by rw [za_u_b hne, za_u_b hne])
      obtain ⟨p3, q3⟩ := q2 _ rfl (by rw [za_u_b hne, za_u_b hne, za_u_b hne])
      have q4 := q3 _ rfl (by rw [za_u_b hne, za_u_b hne, za_u_b hne, za_u_b hne]) _ rfl
      have r1 : ∀ (x : Int32) (i : Nat), za_u (gm_t μ 0).1 33 0 i x 30 0 4 = (gm_t μ 0).1 30 0 4 := fun x i => by rw [za_u_b hne]
      refine ⟨p0, ?_⟩
      show vp_in (4 * (za_u (gm_t μ 0).1 33 0 ((4 : Int32) * (gm_t μ 0).1 30 0 4).toNatClampNeg H) 30 0 4 + 1) 64 ∧ _
      simp only [za_u_b hne]
      refine ⟨p1, p2, p3, ?_⟩
      obtain ⟨d', mc', ms', po, px, e1, e2, e3, e4, e5, e6⟩ := q4
      refine ⟨d', mc', ms', po, px, e1, e2, e3, e4, fun r μ2 hr => ?_, fun E μ2 hE => (e6 E μ2 hE).elim⟩
      obtain ⟨rfl, ⟨⟨n, z1, z2, z3, z4, z5⟩, z6⟩, z7, z8⟩ := e5 r μ2 hr
      exact ⟨rfl, Or.inl rfl, z7, z8, ⟨_, rfl, Or.inl ⟨n, z1, z2, z3, z4, z5⟩⟩, z6⟩
    intro m hm f _ _
    subst hm
    refine ⟨by rw [i0]; exact v 0 (by decide), fun f0 hf0 _ => ⟨by rw [i1]; exact v 1 (by decide), fun f1 hf1 _ => ⟨by rw [i2]; exact v 2 (by decide), fun f2 hf2 _ => ⟨by rw [i3]; exact v 3 (by decide), fun f3 hf3 _ f5 hf5 => ?_⟩⟩⟩⟩
    rw [i0, show (nI (4 * gq_np g)).toNatClampNeg = 4 * gq_np g from zn_cl (by omega)] at hf0
    rw [i1, cl 1 (by decide)] at hf1
    rw [i2, cl 2 (by decide)] at hf2
    rw [i3, cl 3 (by decide)] at hf3
    rw [nI_1] at hf5
    have b33 : ∀ b j, b ≠ 33 → f3 b j = (gm_t μ 0).1 b j := fun b j hb => by rw [← hf3, za_u_b hb, ← hf2, za_u_b hb, ← hf1, za_u_b hb, ← hf0, za_u_b hb]
    have o33 : ∀ i, f3 33 0 i = if i / 4 = gq_np g then (if i % 4 = 0 then H else if i % 4 = 1 then S1 else if i % 4 = 2 then S2 else S3) else (gm_t μ 0).1 33 0 i := by
      intro i
      rw [← hf3]
      by_cases t3 : i = 4 * gq_np g + 3
      · subst t3
        rw [za_u_same, if_pos (by omega), if_neg (by omega), if_neg (by omega), if_neg (by omega)]
      · rw [za_u_i t3, ← hf2]
        by_cases t2 : i = 4 * gq_np g + 2
        · subst t2
          rw [za_u_same, if_pos (by omega), if_neg (by omega), if_neg (by omega), if_pos (by omega)]
        · rw [za_u_i t2, ← hf1]
          by_cases t1 : i = 4 * gq_np g + 1
          · subst t1
            rw [za_u_same, if_pos (by omega), if_neg (by omega), if_pos (by omega)]
          · rw [za_u_i t1, ← hf0]
            by_cases t0 : i = 4 * gq_np g
            · subst t0
              rw [za_u_same, if_pos (by omega), if_pos (by omega)]
            · rw [za_u_i t0, if_neg (by omega)]
    have g30 : ∀ i, f5 30 0 i = if i = 4 then nI (gq_np g + 1) else (gm_t μ 0).1 30 0 i := fun i => by
      rw [← hf5]
      by_cases t : i = 4
      · subst t; rw [za_u_same, if_pos rfl]
      · rw [za_u_i t, if_neg t, b33 30 0 (by decide)]
    have gb : ∀ b j, b ≠ 30 → f5 b j = f3 b j := fun b j hb => by rw [← hf5, za_u_b hb]
    have hM2 : gq_M (gq_pr g k S1 S2 S3) (f5, (gm_t μ 0).2) := gq_M_pr hg hP hM1 g30 (by show f5 31 0 = _; rw [gb 31 0 (by decide), b33 31 0 (by decide)]) (by show f5 32 0 = _; rw [gb 32 0 (by decide), b33 32 0 (by decide)]) (by show f5 34 0 = _; rw [gb 34 0 (by decide), b33 34 0 (by decide)]) (fun i => by show f5 33 0 i = _; rw [gb 33 0 (by decide)]; exact o33 i)
    refine ⟨d - 1, 0, 0, _, _, by omega, Nat.le_refl _, Nat.le_refl _, ct_M_forget (by omega), ?_, fun _ _ h => h.elim⟩
    rintro r μ2 ⟨rfl, hμ2⟩
    have hμ2 : μ2 = gm_f (f5, (gm_t μ 0).2) := hμ2
    subst hμ2
    refine ⟨rfl, ⟨⟨k, hP, hlt, ?_, ?_, gm_fM hM2⟩, ?_⟩, Nat.le_refl _, Nat.le_refl _⟩
    · rw [gm_fi (by decide) (by decide)]
      show f5 30 0 4 - 1 = _
      rw [g30, if_pos rfl]
      exact nI_s1 _
    · rw [gm_fi (by decide) (by decide)]
      show f5 30 0 0 = _
      rw [g30, if_neg (by decide), gm_t0]
    · refine zq_tr (zq_tr (gm_tf (t := 0)) (?_ : zq_fr (fun b _ => 30 ≤ b) (gm_t μ 0) (f5, (gm_t μ 0).2))) gm_ff
      rw [← hf5, ← hf3, ← hf2, ← hf1, ← hf0]
      have s0 : zq_fr (fun b _ => 30 ≤ b) (gm_t μ 0) (za_u (gm_t μ 0).1 33 0 (4 * gq_np g) H, (gm_t μ 0).2) := zq_u zq_rf (show 30 ≤ 33 by decide)
      have s1 := zq_u (i := 4 * gq_np g + 1) (x := S1) (p := 33) (j := 0) s0 (show 30 ≤ 33 by decide)
      have s2 := zq_u (i := 4 * gq_np g + 2) (x := S2) (p := 33) (j := 0) s1 (show 30 ≤ 33 by decide)
      have s3 := zq_u (i := 4 * gq_np g + 3) (x := S3) (p := 33) (j := 0) s2 (show 30 ≤ 33 by decide)
      exact zq_u (i := 4) (x := nI (gq_np g + 1)) (p := 30) (j := 0) s3 (Nat.le_refl 30)
  have c91 : ∀ (x y v5 : Int32), (x = 0 ∨ x = 1) → (y = 0 ∨ y = 1) → (x = 0 ↔ ∃ k, gs_P g H S1 S2 S3 k) → (y = 1 ↔ gq_np g = 16) → ZZ 91 [some (za_r 30 0), some (za_i H), some (za_i S1), some (za_i S2), some (za_i S3), some (za_i v5)] [za_i y, za_i x, za_r 30 0] μ (0, 0) := by
    intro x y v5 hx hy hxS hy8
    obtain ⟨t0, t1, t2⟩ := mo_t_eq hx hy
    refine run [99] 60 91 _ _ _ _ ?_
    refine ⟨d - 1, 0, 0, _, _, by omega, Nat.le_refl _, Nat.le_refl _, ct_M_refuse (by omega), ?_, fun _ _ h => h.elim⟩
    rintro r μ1 ⟨rfl, hμ1⟩
    have hμ1 : μ1 = gm_t μ (mo_t x y) := hμ1
    subst hμ1
    by_cases ht : mo_t x y = 0
    · rw [if_pos ht, ht]
      refine ⟨fun _ => c99 (hxS.mp (t0.mp ht).1) ?_ v5, fun q => absurd rfl q⟩
      refine Classical.byContradiction fun q => ?_
      have := hy8.mpr (by omega)
      exact absurd ((t0.mp ht).2.symm.trans this) (by decide)
    · rw [if_neg ht]
      refine ⟨fun q => absurd q (by decide), fun _ => ⟨rfl, Or.inl rfl, Nat.le_refl _, Nat.le_refl _, ⟨0, rfl, Or.inr ?_⟩, gm_tf⟩⟩
      by_cases e : x = 1
      · refine Or.inl ⟨fun z => absurd (e.symm.trans (hxS.mpr z)) (by decide), ?_, gm_tg h⟩
        rw [gm_t0]; exact t1 e
      · have e0 := hx.resolve_right e
        have ey : y = 1 := hy.resolve_left (fun z => ht (t0.mpr ⟨e0, z⟩))
        refine Or.inr ⟨hxS.mp e0, fun z => ?_, ?_, gm_tg h⟩
        · have := hy8.mp ey; omega
        · rw [gm_t0]; exact t2 e0 ey
  have c64 : ∀ v : Int32, (v = 0 ∨ v = 1) → (v = 1 ↔ ∃ k, gs_P g H S1 S2 S3 k) → ZZ 64 [some (za_r 30 0), some (za_i H), some (za_i S1), some (za_i S2), some (za_i S3), none] [za_i v] μ (0, 0) := by
    intro v hv hvS
    have c77 : ∀ x : Int32, (x = 0 ∨ x = 1) → (x = 0 ↔ ∃ k, gs_P g H S1 S2 S3 k) → ZZ 77 [some (za_r 30 0), some (za_i H), some (za_i S1), some (za_i S2), some (za_i S3), some (za_i v)] [za_i x, za_r 30 0] μ (0, 0) := by
      intro x hx hxS
      refine run [91] 60 77 _ _ _ _ ?_
      refine ⟨fun q => c91 x 0 v hx (Or.inl rfl) hxS ⟨fun z => absurd z (by decide), fun z => absurd ?_ q⟩, fun q => c91 x 1 v hx (Or.inr rfl) hxS ⟨fun _ => ?_, fun _ => rfl⟩⟩
      · show μ.1 30 0 4 = 16
        rw [e4, z]; rfl
      · have q : μ.1 30 0 4 = 16 := q
        rw [e4] at q
        exact (nI_eq (b := 16) (by omega) (by decide)).mp q
    refine run [77] 60 64 _ _ _ _ ?_
    exact ⟨fun q => c77 0 (Or.inl rfl) ⟨fun _ => hvS.mp (zn_or01 hv q), fun _ => rfl⟩, fun q => c77 1 (Or.inr rfl) ⟨fun z => absurd z (by decide), fun z => absurd (q.symm.trans (hvS.mpr z)) (by decide)⟩⟩
  have c63 : ¬ (∃ k, gs_P g H S1 S2 S3 k) → ZZ 63 [some (za_r 30 0), some (za_i H), some (za_i S1), some (za_i S2), some (za_i S3), none] [] μ (0, 0) := fun q => run [64] 20 63 _ _ _ _ (c64 0 (Or.inl rfl) ⟨fun z => absurd z (by decide), fun z => absurd z q⟩)
  have c59 : (∃ k, gs_P g H S1 S2 S3 k) → ZZ 59 [some (za_r 30 0), some (za_i H), some (za_i S1), some (za_i S2), some (za_i S3), none] [] μ (0, 0) := fun q => run [64] 20 59 _ _ _ _ (c64 1 (Or.inr rfl) ⟨fun _ => q, fun _ => rfl⟩)
  have c39 : ∀ k, k < gq_ns g → H = nI k → gq_pt g S1 → gq_pt g S2 → (S1 = -1 → S2 = -1) → ZZ 39 [some (za_r 30 0), some (za_i H), some (za_i S1), some (za_i S2), some (za_i S3), none] [] μ (0, 0) := by
    intro k hk hH p1 p2 g1
    refine run [59, 63] 60 39 _ _ _ _ ?_
    refine ⟨fun q => c59 ⟨k, hk, hH, p1, p2, Or.inl q, g1, fun _ => q⟩, fun q => ⟨fun q2 => c63 ?_, fun q2 => ?_⟩⟩
    · rintro ⟨_, _, _, _, _, _, _, z⟩
      exact q (z q2)
    · refine ⟨d - 1, 0, 0, _, _, by omega, Nat.le_refl _, Nat.le_refl _, ct_M_isSymbol' e1 hns (by omega), ?_, fun _ _ h => h.elim⟩
      rintro r μ1 ⟨⟨v, rfl, hv, hv1⟩, hμ1⟩
      have hμ1 := hμ1.symm
      subst hμ1
      refine ⟨fun z => c63 ?_, fun z => c59 ⟨k, hk, hH, p1, p2, Or.inr (hv1.mp (zn_or01 hv z)), g1, fun w => absurd w q2⟩⟩
      rintro ⟨_, _, _, _, _, w, _⟩
      exact absurd (z.symm.trans (hv1.mpr (w.resolve_left q))) (by decide)
  have c21 : ∀ k, k < gq_ns g → H = nI k → gq_pt g S1 → ZZ 21 [some (za_r 30 0), some (za_i H), some (za_i S1), some (za_i S2), some (za_i S3), none] [] μ (0, 0) := by
    intro k hk hH p1
    refine run [39, 63] 60 21 _ _ _ _ ?_
    refine ⟨fun q => c39 k hk hH p1 (Or.inl q) (fun _ => q), fun q => ⟨fun q2 => c63 ?_, fun q2 => ?_⟩⟩
    · rintro ⟨_, _, _, _, _, _, z, _⟩
      exact q (z q2)
    · refine ⟨d - 1, 0, 0, _, _, by omega, Nat.le_refl _, Nat.le_refl _, ct_M_isSymbol' e1 hns (by omega), ?_, fun _ _ h => h.elim⟩
      rintro r μ1 ⟨⟨v, rfl, hv, hv1⟩, hμ1⟩
      have hμ1 := hμ1.symm
      subst hμ1
      refine ⟨fun z => c63 ?_, fun z => c39 k hk hH p1 (Or.inr (hv1.mp (zn_or01 hv z))) (fun w => absurd w q2)⟩
      rintro ⟨_, _, _, _, w, _⟩
      exact absurd (z.symm.trans (hv1.mpr (w.resolve_left q))) (by decide)
  refine run [21, 63] 60 0 _ _ _ _ ?_
  refine ⟨d - 1, 0, 0, _, _, by omega, Nat.le_refl _, Nat.le_refl _, ct_M_isSymbol' e1 hns (by omega), ?_, fun _ _ h => h.elim⟩
  rintro r μ1 ⟨⟨v, rfl, hv, hv1⟩, hμ1⟩
  have hμ1 := hμ1.symm
  subst hμ1
  refine ⟨fun z => c63 ?_, fun z => ?_⟩
  · rintro ⟨k, w1, w2, _⟩
    exact absurd (z.symm.trans (hv1.mpr ⟨k, w1, w2⟩)) (by decide)
  obtain ⟨k, hk, hH⟩ := hv1.mp (zn_or01 hv z)
  refine ⟨fun q => c21 k hk hH (Or.inl q), fun q => ?_⟩
  refine ⟨d - 1, 0, 0, _, _, by omega, Nat.le_refl _, Nat.le_refl _, ct_M_isSymbol' e1 hns (by omega), ?_, fun _ _ h => h.elim⟩
  rintro r μ1 ⟨⟨v1, rfl, hv, hv2⟩, hμ1⟩
  have hμ1 := hμ1.symm
  subst hμ1
  refine ⟨fun z => c63 ?_, fun z => c21 k hk hH (Or.inr (hv2.mp (zn_or01 hv z)))⟩
  rintro ⟨_, _, _, w, _⟩
  exact absurd (z.symm.trans (hv2.mpr (w.resolve_left q))) (by decide)
