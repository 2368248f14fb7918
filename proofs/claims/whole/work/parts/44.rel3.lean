/-! the class: growUpwards, growFromAbove -/
theorem zn_o1 {v : Int32} (h : v = 0 ∨ v = 1) : v ||| 1 = 1 := by rcases h with rfl | rfl <;> rfl
theorem zn_o0 {v : Int32} (h : v = 0 ∨ v = 1) : v ||| 0 = v := by rcases h with rfl | rfl <;> rfl
/-- what Relations may change -/
def cl_rS (b j : Nat) : Prop := ((b = 18 ∨ b = 19) ∧ j = 4) ∨ ((b = 20 ∨ b = 21 ∨ b = 22 ∨ b = 23) ∧ j = 0)
theorem cl_rg {g : gq_G} {μ μ' : za_M} (hC : gq_C g μ) (hf : zq_fr cl_rS μ μ') : gq_C g μ' := gq_C_fr hC hf (fun b j h q => by rcases q with q | q <;> omega)
theorem cl_rB {μ μ' : za_M} (hf : zq_fr (bd_fS 4) μ μ') : zq_fr cl_rS μ μ' := zq_up hf (fun _ _ q => Or.inl q)
theorem cl_rk {r : Nat → Int32} {o a b : Nat} (ho : o < 4) (ha : a < 8) (hb : b < 8) : bl (bd_rk r o 6) (8 * a + b) = (decide (a < 6) && bt (r (8 * o + a)) (8 * o + b)) := by
  rw [bd_rk_bl r ho 6 (Nat.le_refl 6) _ (by omega), show (8 * a + b) / 8 = a by omega, show (8 * a + b) % 8 = b by omega]
set_option maxHeartbeats 8000000 in
theorem ct_R_growUpwards {Γ : zk_G} {d : Nat} {μ : za_M} {g : gq_G} (hg : gq_ok g) (hC : gq_C g μ) (h01 : cl_01 μ) (hso : ∀ i, lf_V 520 (cl_x μ) i → un_X g i) (hd : 4 ≤ d) : zk_Ct zt Γ zm_R_growUpwards d 0 0 [za_r 20 0, za_r 1 0] μ
    (fun r μ' => (∃ v : Int32, r = some (za_i v) ∧ lf_I (un_F g) (gq_np g) 520 (cl_x μ) (gq_np g) (cl_x μ') v) ∧ cl_01 μ' ∧ μ'.1 20 0 = μ.1 20 0 ∧ μ'.2 23 0 = μ.2 23 0 ∧ zq_fr cl_rS μ μ') (fun _ _ => False) := by
  have hnp : gq_np g ≤ 16 := hg.2.1
  refine zs_R_growUpwards (Nat.le_of_ble_eq_true rfl) (by omega) (fun ZZ run => ?_)
  have loop := zn_for (σ := za_M × Int32 × Option za_V × Option za_V) (N := gq_np g)
    (P := fun k t => ∀ y : Int32, y = nI k → ZZ 4 [some (za_r 20 0), some (za_r 1 0), some (za_i t.2.1), some (za_i y), t.2.2.1, t.2.2.2, none] [] t.1 (0, 0))
    (I := fun k t => lf_I (un_F g) (gq_np g) 520 (cl_x μ) k (cl_x t.1) t.2.1 ∧ cl_01 t.1 ∧ t.1.1 20 0 = μ.1 20 0 ∧ t.1.2 23 0 = μ.2 23 0 ∧ zq_fr cl_rS μ t.1)
    (fun t h y hy => by
      obtain ⟨i1, i2, i3, i4, i5⟩ := h
      have hC1 := cl_rg hC i5
      refine run [4] 80 4 _ _ _ _ ?_
      refine ⟨fun _ => ?_, fun q => absurd (by rw [hC1.2.1, hy]; exact Int32.le_refl _) q⟩
      exact ⟨rfl, Or.inr ⟨rfl, i1.1⟩, Nat.le_refl _, Nat.le_refl _, ⟨t.2.1, rfl, i1⟩, i2, i3, i4, i5⟩)
    (fun k t hk h ih y hy => by
      obtain ⟨i1, i2, i3, i4, i5⟩ := h
      have hC1 := cl_rg hC i5
      obtain ⟨c1, c2, c3, c4, c5, c6⟩ := gq_Cp hg hC1 hy hk
      have hs8 := gq_sy8 hg hk (Nat.zero_le _)
      have hso1 := i1.2.1
      have e6 : t.1.1 6 y.toNatClampNeg (0 : Int32).toNatClampNeg = nI (gq_sy g k 0) := by rw [zn_c0]; exact c5 0 (Nat.zero_le _)
      refine run [4] 80 4 _ _ _ _ ?_
      refine ⟨fun q => absurd q (zn_ge hy hC1.2.1 hk (by omega)), fun _ => ?_⟩
      refine ⟨d - 1, 0, 0, _, _, by omega, Nat.le_refl _, Nat.le_refl _, ct_R_allPartsExist hg hC1 hy hk (by omega), ?_, fun _ _ h => h.elim⟩
      rintro r μ2 ⟨⟨v, rfl, hv, hv1⟩, rfl⟩
      have hpa : v = 1 ↔ ∀ o, 1 ≤ o → o ≤ gq_m g k → lf_V 520 (cl_x t.1) (gq_sy g k o) := by
        rw [hv1]
        exact ⟨fun q o a b => (cl_xs t.1 (gq_sy8 hg hk b)).mpr ((i2 _ (gq_sy8 hg hk b)).resolve_left (q o a b)), fun q o a b z => by
          have := (cl_xs t.1 (gq_sy8 hg hk b)).mp (q o a b)
          rw [z] at this
          exact absurd this (by decide)⟩
      refine ⟨fun hq => ?_, fun hq => ?_⟩
      · have hall := hpa.mp (zn_or01 hv hq)
        refine ⟨c2, zn_i (k := 0) rfl (by decide) (by decide), c2, ?_⟩
        refine ⟨d - 1, 0, 0, _, _, by omega, Nat.le_refl _, Nat.le_refl _, ct_B_start (by omega), ?_, fun _ _ h => h.elim⟩
        rintro r μ3 ⟨rfl, s1, s2, s3⟩
        have f3 := cl_rB (zq_up s3 (fun _ _ q => q) : zq_fr (bd_fS 4) t.1 μ3)
        have hB : bd_S μ3 4 (fun _ => False) (bd_N g k) := bd_S0 (fun i hi => by rw [s1 i hi]; exact c6 i hi) s2
        refine ⟨d - 1, 0, 0, _, _, by omega, Nat.le_refl _, Nat.le_refl _, ct_R_joinParts (but := 0) hg (cl_rg hC1 f3) hy rfl (by decide) hk hB (fun v q => q.elim) (by omega), ?_, fun _ _ h => h.elim⟩
        rintro r μ4 ⟨rfl, j1, j2⟩
        have f4 := zq_tr f3 (cl_rB j2)
        have a21 : μ4.1 21 0 = t.1.1 21 0 := by rw [j2.1 21 0 (by unfold bd_fS; decide), s3.1 21 0 (by decide)]
        have a20 : μ4.1 20 0 = t.1.1 20 0 := by rw [j2.1 20 0 (by unfold bd_fS; decide), s3.1 20 0 (by decide)]
        have a22 : μ4.2 22 0 = t.1.2 22 0 := by rw [j2.2 22 0 (by unfold bd_fS; decide), s3.2 22 0 (by decide)]
        have a23 : μ4.2 23 0 = t.1.2 23 0 := by rw [j2.2 23 0 (by unfold bd_fS; decide), s3.2 23 0 (by decide)]
        have b22 : μ3.2 22 0 = t.1.2 22 0 := by rw [s3.2 22 0 (by decide)]
        have hcU : cl_U μ3 = cl_U t.1 := by unfold cl_U; rw [b22]
        rw [hcU] at j1
        obtain ⟨B1, B2, B3⟩ := cl_BU hg hk hso1 j1
        have hrel : ∀ a b, a < 8 → b < 8 → (bl (bd_rk (μ4.1 19 4) 0 6) (8 * a + b) = true ↔ pq_T (fun _ => True) (un_E g k 0 (un_P (lf_V 520 (cl_x t.1))) un_no) a b) := by
          intro a b ha hb
          rw [cl_rk (by decide) ha hb, Bool.and_eq_true, decide_eq_true_eq, show 8 * 0 + a = a by omega, show 8 * 0 + b = b by omega, B1 a b (by omega)]
          refine ⟨fun q => q.2, fun q => ⟨?_, q⟩⟩
          have d1 := (gq_up ha (un_from hg hk ha q)).1
          have d0 := (hg.2.2.1 _ ((hg.2.2.2.2.1 k hk).2 0 (Nat.zero_le _))).1
          omega
        have fin : ∀ (w v' : Int32), w = nI (gq_sy g k 0) → (v' = 0 ∨ v' = 1) → (v' = 1 ↔ (t.2.1 = 1 ∨ (t.1.1 21 0 (gq_sy g k 0) = 0 ∨ ¬ (t.1.2 22 0 (gq_sy g k 0) ||| bd_rk (μ4.1 19 4) 0 6) = t.1.2 22 0 (gq_sy g k 0)))) → ZZ 4 [some (za_r 20 0), some (za_r 1 0), some (za_i v'), some (za_i (y + 1)), some (za_i w), some (za_l (μ4.2 22 0 w.toNatClampNeg ||| bd_rk (μ4.1 19 4) 0 6)), none] [] (za_u μ4.1 21 0 w.toNatClampNeg 1, za_u μ4.2 22 0 w.toNatClampNeg (μ4.2 22 0 w.toNatClampNeg ||| bd_rk (μ4.1 19 4) 0 6)) (0, 0) := by
          intro w v' hw hv' hv1'
          have hcw : w.toNatClampNeg = gq_sy g k 0 := zn_c hw (by omega)
          rw [hcw]
          obtain ⟨m1, m2, m3⟩ := cl_gu (μ' := (za_u μ4.1 21 0 (gq_sy g k 0) 1, za_u μ4.2 22 0 (gq_sy g k 0) (μ4.2 22 0 (gq_sy g k 0) ||| bd_rk (μ4.1 19 4) 0 6))) hg hk i2 hall hrel (fun i => by
            dsimp only
            by_cases e : i = gq_sy g k 0
            · rw [if_pos e, e, za_u_same]
            · rw [if_neg e, za_u_i e, a21]) (fun i => by
            dsimp only
            by_cases e : i = gq_sy g k 0
            · rw [if_pos e, e, za_u_same, a22]
            · rw [if_neg e, za_u_i e, a22])
          refine ih (_, v', _, _) ⟨lf_Is (un_Fm g) (un_FN hg) i1 hk m1 hv' (by rw [hv1', m2]), m3, ?_, ?_, ?_⟩ _ (zn_s hy)
          · dsimp only
            rw [za_u_b (show (20 : Nat) ≠ 21 by decide), a20]
            exact i3
          · dsimp only
            rw [za_u_b (show (23 : Nat) ≠ 22 by decide), a23]
            exact i4
          · exact zq_uL (zq_u (zq_tr i5 f4) (Or.inr ⟨by decide, rfl⟩)) (Or.inr ⟨by decide, rfl⟩)
        have e6c : (t.1.1 6 y.toNatClampNeg (0 : Int32).toNatClampNeg).toNatClampNeg = gq_sy g k 0 := zn_c e6 (by omega)
        have hin : vp_in (t.1.1 6 y.toNatClampNeg (0 : Int32).toNatClampNeg) 8 := zn_i e6 hs8 (by decide)
        refine ⟨hin, ?_⟩
        refine ⟨d - 1, 0, 0, _, _, by omega, Nat.le_refl _, Nat.le_refl _, ct_B_relationAt' (o := 0) rfl (by omega) (by decide), ?_, fun _ _ h => h.elim⟩
        rintro r μ5 ⟨rfl, rfl⟩
        refine ⟨hin, fun hz => ⟨hin, Or.inr rfl, hin, ?_⟩, fun hz => ⟨hin, fun hc => ⟨hin, Or.inr rfl, hin, ?_⟩, fun hc => ⟨hin, Or.inr rfl, hin, ?_⟩⟩⟩
        · rw [za_ix0, e6c, a21] at hz
          exact fin _ _ e6 (by rw [zn_o1 i1.1]; exact Or.inr rfl) (by rw [zn_o1 i1.1]; exact ⟨fun _ => Or.inr (Or.inl hz), fun _ => rfl⟩)
        · rw [za_ix0, e6c, a21] at hz
          rw [za_ix0, e6c, a22, lg_cmp_eq] at hc
          exact fin _ _ e6 (by rw [zn_o0 i1.1]; exact i1.1) (by rw [zn_o0 i1.1]; exact ⟨Or.inl, fun q => q.elim id (fun q => q.elim (fun q => absurd q hz) (fun q => absurd hc q))⟩)
        · rw [za_ix0, e6c, a22, lg_cmp_eq] at hc
          exact fin _ _ e6 (by rw [zn_o1 i1.1]; exact Or.inr rfl) (by rw [zn_o1 i1.1]; exact ⟨fun _ => Or.inr (Or.inr hc), fun _ => rfl⟩)
      · have hno : ¬ ∀ o, 1 ≤ o → o ≤ gq_m g k → lf_V 520 (cl_x t.1) (gq_sy g k o) := fun z => by rw [hpa.mpr z] at hq; exact absurd hq (by decide)
        exact ih (t.1, t.2.1, t.2.2.1, t.2.2.2) ⟨lf_Ik (un_Fm g) (un_FN hg) i1 hk (fun i q => hno q.1), i2, i3, i4, i5⟩ _ (zn_s hy))
  refine run [4] 80 0 _ _ _ _ ?_
  exact loop 0 (μ, 0, none, none) (Nat.zero_le _) ⟨lf_I0 hso, h01, rfl, rfl, zq_rf⟩ 0 rfl
