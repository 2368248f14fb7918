theorem lf_Isk {F : Nat → (Nat → Prop) → Nat → Prop} {n N : Nat} {x0 x : Nat → Bool} {v : Int32} (hm : lf_m F) (hN : ∀ p X i, p < n → F p X i → i < N) {k : Nat} (h : lf_I F n N x0 k x v) : ∀ k', k ≤ k' → k' ≤ n → (∀ q, k ≤ q → q < k' → ∀ i, ¬ F q (lf_V N x) i) → lf_I F n N x0 k' x v := by
  intro k' hkk
  induction k' with
  | zero => intro _ _; rw [show k = 0 by omega] at h; exact h
  | succ j ih =>
    intro hk' hF
    by_cases e : k = j + 1
    · rw [← e]; exact h
    · exact lf_Ik hm hN (ih (by omega) (by omega) (fun q a b => hF q a (by omega))) (by omega) (hF j (by omega) (by omega))
set_option maxHeartbeats 8000000 in
theorem ct_R_growFromAbove {Γ : zk_G} {d : Nat} {μ : za_M} {g : gq_G} (hg : gq_ok g) (hC : gq_C g μ) (h01 : cl_01 μ) (hX : ∀ i, lf_V 520 (cl_x μ) i ↔ un_X g i) (hsy : ∀ i, lf_V 512 (cl_y μ) i → un_Y g i) (hd : 4 ≤ d) : zk_Ct zt Γ zm_R_growFromAbove d 0 0 [za_r 20 0, za_r 1 0] μ
    (fun r μ' => (∃ v : Int32, r = some (za_i v) ∧ lf_I (un_W g) (3 * gq_np g) 512 (cl_y μ) (3 * gq_np g) (cl_y μ') v) ∧ μ'.1 20 0 = μ.1 20 0 ∧ μ'.1 21 0 = μ.1 21 0 ∧ μ'.2 22 0 = μ.2 22 0 ∧ zq_fr cl_rS μ μ') (fun _ _ => False) := by
  have hnp : gq_np g ≤ 16 := hg.2.1
  have hso : ∀ i, lf_V 520 (cl_x μ) i → un_X g i := fun i => (hX i).mp
  have eX : lf_V 520 (cl_x μ) = un_X g := funext fun i => propext (hX i)
  refine zs_R_growFromAbove (Nat.le_of_ble_eq_true rfl) (by omega) (fun ZZ run => ?_)
  have loop := zn_for (σ := za_M × Int32 × Option za_V × Option za_V × Option za_V) (N := gq_np g)
    (P := fun k t => ∀ y : Int32, y = nI k → ZZ 4 [some (za_r 20 0), some (za_r 1 0), some (za_i t.2.1), some (za_i y), t.2.2.1, t.2.2.2.1, t.2.2.2.2, none] [] t.1 (0, 0))
    (I := fun k t => lf_I (un_W g) (3 * gq_np g) 512 (cl_y μ) (3 * k) (cl_y t.1) t.2.1 ∧ t.1.1 20 0 = μ.1 20 0 ∧ t.1.1 21 0 = μ.1 21 0 ∧ t.1.2 22 0 = μ.2 22 0 ∧ zq_fr cl_rS μ t.1)
    (fun t h y hy => by
      obtain ⟨i1, i2, i3, i4, i5⟩ := h
      have hC1 := cl_rg hC i5
      refine run [4] 80 4 _ _ _ _ ?_
      refine ⟨fun _ => ?_, fun q => absurd (by rw [hC1.2.1, hy]; exact Int32.le_refl _) q⟩
      exact ⟨rfl, Or.inr ⟨rfl, i1.1⟩, Nat.le_refl _, Nat.le_refl _, ⟨t.2.1, rfl, i1⟩, i2, i3, i4, i5⟩)
    (fun k t hk h ih y hy => by
      obtain ⟨i1, i2, i3, i4, i5⟩ := h
      have hC1 := cl_rg hC i5
      obtain ⟨c1, c2, c3, c4, c5, c6⟩ := gq_Cp hg hC1 hy hk
      have hm := (hg.2.2.2.2.1 k hk).1
      refine run [4, 27] 80 4 _ _ _ _ ?_
      refine ⟨fun q => absurd q (zn_ge hy hC1.2.1 hk (by omega)), fun _ => ?_⟩
      refine ⟨d - 1, 0, 0, _, _, by omega, Nat.le_refl _, Nat.le_refl _, ct_R_allPartsExist hg hC1 hy hk (by omega), ?_, fun _ _ h => h.elim⟩
      rintro r μ2 ⟨⟨v, rfl, hv, hv1⟩, rfl⟩
      have hpa : v = 1 ↔ un_pa g k := by
        rw [hv1]
        unfold un_pa
        rw [← eX]
        exact ⟨fun q o a b => (cl_xs μ (gq_sy8 hg hk b)).mpr ((h01 _ (gq_sy8 hg hk b)).resolve_left (by rw [← i3]; exact q o a b)), fun q o a b z => by
          have := (cl_xs μ (gq_sy8 hg hk b)).mp (q o a b)
          rw [← i3, z] at this
          exact absurd this (by decide)⟩
      refine ⟨fun hq => ?_, fun hq => ?_⟩
      · have hyes := hpa.mp (zn_or01 hv hq)
        have inner := zn_for (σ := za_M × Int32 × Option za_V × Option za_V) (N := gq_m g k + 1)
          (P := fun n u => 1 ≤ n → ∀ z : Int32, z = nI n → ZZ 27 [some (za_r 20 0), some (za_r 1 0), some (za_i u.2.1), some (za_i y), some (za_i z), u.2.2.1, u.2.2.2, none] [] u.1 (0, 0))
          (I := fun n u => lf_I (un_W g) (3 * gq_np g) 512 (cl_y μ) (3 * k + (n - 1)) (cl_y u.1) u.2.1 ∧ u.1.1 20 0 = μ.1 20 0 ∧ u.1.1 21 0 = μ.1 21 0 ∧ u.1.2 22 0 = μ.2 22 0 ∧ zq_fr cl_rS μ u.1)
          (fun u h h1 z hz => by
            obtain ⟨j1, j2, j3, j4, j5⟩ := h
            obtain ⟨_, b2, _, b4, _, _⟩ := gq_Cp hg (cl_rg hC j5) hy hk
            refine run [4, 27] 80 27 _ _ _ _ ?_
            refine ⟨b2, fun _ => ?_, fun q => absurd (zn_lt2 b4 hz (Nat.lt_succ_self _) (by omega)) q⟩
            refine ih (u.1, u.2.1, some (za_i z), u.2.2.1, u.2.2.2) ⟨lf_Isk (un_Wm g) (un_WN hg) j1 _ (by omega) (by omega) (fun q a b i w => ?_), j2, j3, j4, j5⟩ _ (zn_s hy)
            have := w.1.1
            rw [show q / 3 = k by omega] at this
            omega)
          (fun n u hn h ih2 h1 z hz => by
            obtain ⟨j1, j2, j3, j4, j5⟩ := h
            obtain ⟨t, rfl⟩ : ∃ t, n = t + 1 := ⟨n - 1, by omega⟩
            have j1 : lf_I (un_W g) (3 * gq_np g) 512 (cl_y μ) (3 * k + t) (cl_y u.1) u.2.1 := j1
            have hle : t + 1 ≤ gq_m g k := by omega
            have hC2 := cl_rg hC j5
            obtain ⟨_, b2, _, b4, b5, _⟩ := gq_Cp hg hC2 hy hk
            have hs8 := gq_sy8 hg hk hle
            have hcz : z.toNatClampNeg = t + 1 := zn_c hz (by omega)
            have e6 : u.1.1 6 y.toNatClampNeg z.toNatClampNeg = nI (gq_sy g k (t + 1)) := by rw [hcz]; exact b5 _ hle
            have ex : cl_x u.1 = cl_x μ := cl_xc j3 j4
            have hX1 : ∀ i, lf_V 520 (cl_x u.1) i ↔ un_X g i := by rw [ex]; exact hX
            have hso1 : ∀ i, lf_V 520 (cl_x u.1) i → un_X g i := fun i => (hX1 i).mp
            refine run [27] 80 27 _ _ _ _ ?_
            refine ⟨b2, fun q => absurd q (zn_nl b4 hz hle (by omega)), fun _ => ⟨b2, zn_i hz (by omega) (by decide), ?_⟩⟩
            refine ⟨d - 1, 0, 0, _, _, by omega, Nat.le_refl _, Nat.le_refl _, ct_R_startWithHead hg hC2 hy hk (by omega), ?_, fun _ _ h => h.elim⟩
            rintro r μ3 ⟨rfl, s1, s2⟩
            have f3 := cl_rB s2
            refine ⟨d - 1, 0, 0, _, _, by omega, Nat.le_refl _, Nat.le_refl _, ct_R_joinParts (but := t + 1) hg (cl_rg hC2 f3) hy hz (by omega) hk s1 (fun v q => by omega) (by omega), ?_, fun _ _ h => h.elim⟩
            rintro r μ4 ⟨rfl, k1, k2⟩
            have f4 := zq_tr f3 (cl_rB k2)
            have a21 : μ4.1 21 0 = u.1.1 21 0 := by rw [k2.1 21 0 (by unfold bd_fS; decide), s2.1 21 0 (by unfold bd_fS; decide)]
            have a20 : μ4.1 20 0 = u.1.1 20 0 := by rw [k2.1 20 0 (by unfold bd_fS; decide), s2.1 20 0 (by unfold bd_fS; decide)]
            have a22 : μ4.2 22 0 = u.1.2 22 0 := by rw [k2.2 22 0 (by unfold bd_fS; decide), s2.2 22 0 (by unfold bd_fS; decide)]
            have a23 : μ4.2 23 0 = u.1.2 23 0 := by rw [k2.2 23 0 (by unfold bd_fS; decide), s2.2 23 0 (by unfold bd_fS; decide)]
            have hcU : cl_U μ3 = cl_U u.1 := by unfold cl_U; rw [s2.2 22 0 (by unfold bd_fS; decide)]
            rw [hcU] at k1
            obtain ⟨B1, B2, B3⟩ := cl_BV hg hk hso1 j1.2.1 k1
            have hrel : ∀ a b, a < 8 → b < 8 → (bl (bd_rk (μ4.1 19 4) (t + 1) 6) (8 * a + b) = true ↔ pq_T (fun _ => True) (un_E g k (t + 1) (un_P (lf_V 520 (cl_x u.1))) (un_Q (lf_V 512 (cl_y u.1)) (gq_sy g k 0))) (8 * (t + 1) + a) (8 * (t + 1) + b)) := by
              intro a b ha hb
              rw [cl_rk (by omega) ha hb, Bool.and_eq_true, decide_eq_true_eq, B1 _ _ (by omega)]
              refine ⟨fun q => q.2, fun q => ⟨?_, q⟩⟩
              have d1 := (un_from2 hg hk (by omega) ha q).1
              have d0 := (hg.2.2.1 _ ((hg.2.2.2.2.1 k hk).2 _ hle)).1
              omega
            have fin : ∀ (w v' : Int32), w = nI (gq_sy g k (t + 1)) → (v' = 0 ∨ v' = 1) → (v' = 1 ↔ (u.2.1 = 1 ∨ ¬ (u.1.2 23 0 (gq_sy g k (t + 1)) ||| bd_rk (μ4.1 19 4) (t + 1) 6) = u.1.2 23 0 (gq_sy g k (t + 1)))) → ZZ 27 [some (za_r 20 0), some (za_r 1 0), some (za_i v'), some (za_i y), some (za_i (z + 1)), some (za_i w), some (za_l (μ4.2 23 0 w.toNatClampNeg ||| bd_rk (μ4.1 19 4) (t + 1) 6)), none] [] (μ4.1, za_u μ4.2 23 0 w.toNatClampNeg (μ4.2 23 0 w.toNatClampNeg ||| bd_rk (μ4.1 19 4) (t + 1) 6)) (0, 0) := by
              intro w v' hw hv' hv1'
              have hcw : w.toNatClampNeg = gq_sy g k (t + 1) := zn_c hw (by omega)
              rw [hcw]
              obtain ⟨m1, m2⟩ := cl_ga (μ' := (μ4.1, za_u μ4.2 23 0 (gq_sy g k (t + 1)) (μ4.2 23 0 (gq_sy g k (t + 1)) ||| bd_rk (μ4.1 19 4) (t + 1) 6))) hg (by omega) hk hle hX1 hyes hrel (fun i => by
                dsimp only
                by_cases e : i = gq_sy g k (t + 1)
                · rw [if_pos e, e, za_u_same, a23]
                · rw [if_neg e, za_u_i e, a23])
              have hI : lf_I (un_W g) (3 * gq_np g) 512 (cl_y μ) (3 * k + t + 1) _ v' := lf_Is (un_Wm g) (un_WN hg) j1 (by omega) m1 hv' (by rw [hv1', m2])
              refine ih2 (_, v', _, _) ⟨hI, ?_, ?_, ?_, ?_⟩ (by omega) _ (zn_s hz)
              · dsimp only
                rw [a20]; exact j2
              · dsimp only
                rw [a21]; exact j3
              · dsimp only
                rw [za_u_b (show (22 : Nat) ≠ 23 by decide), a22]; exact j4
              · exact zq_uL (zq_tr j5 f4) (Or.inr ⟨by decide, rfl⟩)
            have e6c : (u.1.1 6 y.toNatClampNeg z.toNatClampNeg).toNatClampNeg = gq_sy g k (t + 1) := zn_c e6 (by omega)
            have hin : vp_in (u.1.1 6 y.toNatClampNeg z.toNatClampNeg) 8 := zn_i e6 hs8 (by decide)
            refine ⟨hin, ?_⟩
            refine ⟨d - 1, 0, 0, _, _, by omega, Nat.le_refl _, Nat.le_refl _, ct_B_relationAt' hz (by omega) (by omega), ?_, fun _ _ h => h.elim⟩
            rintro r μ5 ⟨rfl, rfl⟩
            refine ⟨hin, fun hc => ⟨hin, ?_⟩, fun hc => ⟨hin, ?_⟩⟩
            · rw [za_ix0, e6c, a23, lg_cmp_eq] at hc
              exact fin _ _ e6 (by rw [zn_o0 j1.1]; exact j1.1) (by rw [zn_o0 j1.1]; exact ⟨Or.inl, fun q => q.elim id (fun q => absurd hc q)⟩)
            · rw [za_ix0, e6c, a23, lg_cmp_eq] at hc
              exact fin _ _ e6 (by rw [zn_o1 j1.1]; exact Or.inr rfl) (by rw [zn_o1 j1.1]; exact ⟨fun _ => Or.inr hc, fun _ => rfl⟩))
        exact inner 1 (t.1, t.2.1, t.2.2.2.1, t.2.2.2.2) (by omega) ⟨i1, i2, i3, i4, i5⟩ (Nat.le_refl 1) 1 rfl
      · have hno : ¬ un_pa g k := fun z => by rw [hpa.mpr z] at hq; exact absurd hq (by decide)
        refine ih (t.1, t.2.1, t.2.2.1, t.2.2.2.1, t.2.2.2.2) ⟨lf_Isk (un_Wm g) (un_WN hg) i1 _ (by omega) (by omega) (fun q a b i w => hno ?_), i2, i3, i4, i5⟩ _ (zn_s hy)
        have := w.1.2
        rw [show q / 3 = k by omega] at this
        exact this)
  refine run [4] 80 0 _ _ _ _ ?_
  exact loop 0 (μ, 0, none, none, none) (Nat.zero_le _) ⟨lf_I0 hsy, rfl, rfl, rfl, zq_rf⟩ 0 rfl
/-! the class: lookForCircles, find -/
def cl_ci (g : gq_G) (V : Nat → Nat → Nat → Prop) (n : Nat) (c : Int32) : Prop := (c = 0 ∨ c = 1) ∧ (c = 1 ↔ ∃ p, p < n ∧ un_c g p V)
set_option maxHeartbeats 8000000 in
theorem ct_R_lookForCircles {Γ : zk_G} {d : Nat} {μ : za_M} {g : gq_G} (hg : gq_ok g) (hC : gq_C g μ) (h01 : cl_01 μ) (hX : ∀ i, lf_V 520 (cl_x μ) i ↔ un_X g i) (hY : ∀ i, lf_V 512 (cl_y μ) i ↔ un_Y g i) (hd : 4 ≤ d) : zk_Ct zt Γ zm_R_lookForCircles d 0 0 [za_r 20 0, za_r 1 0] μ
    (fun r μ' => r = none ∧ cl_ci g (fun _ => un_no) (gq_np g) (μ'.1 20 0 1) ∧ cl_ci g (un_Q (un_Y g)) (gq_np g) (μ'.1 20 0 2) ∧ μ'.1 20 0 0 = μ.1 20 0 0 ∧ μ'.1 21 0 = μ.1 21 0 ∧ μ'.2 22 0 = μ.2 22 0 ∧ μ'.2 23 0 = μ.2 23 0 ∧ zq_fr cl_rS μ μ') (fun _ _ => False) := by
  have hnp : gq_np g ≤ 16 := hg.2.1
  have eX : lf_V 520 (cl_x μ) = un_X g := funext fun i => propext (hX i)
  have eY : lf_V 512 (cl_y μ) = un_Y g := funext fun i => propext (hY i)
  refine zs_R_lookForCircles (Nat.le_of_ble_eq_true rfl) (by omega) (fun ZZ run => ?_)
  have step : ∀ {V : Nat → Nat → Nat → Prop} {k : Nat} {c e : Int32}, cl_ci g V k c → un_pa g k → (e = 0 ∨ e = 1) → (e = 1 ↔ ∃ u, pq_T (fun _ => True) (un_E g k 0 (un_P (un_X g)) (V (gq_sy g k 0))) u u) → cl_ci g V (k + 1) (c ||| e) := by
    intro V k c e h1 h2 h3 h4
    have key : (∃ p, p < k + 1 ∧ un_c g p V) ↔ ((∃ p, p < k ∧ un_c g p V) ∨ ∃ u, pq_T (fun _ => True) (un_E g k 0 (un_P (un_X g)) (V (gq_sy g k 0))) u u) := ⟨fun ⟨p, z1, z2⟩ => by
      by_cases e : p = k
      · subst e; exact Or.inr z2.2
      · exact Or.inl ⟨p, by omega, z2⟩, fun z => z.elim (fun ⟨p, z1, z2⟩ => ⟨p, by omega, z2⟩) (fun z => ⟨k, by omega, h2, z⟩)⟩
    unfold cl_ci
    rw [key, ← h4, ← h1.2]
    rcases h3 with rfl | rfl
    · rw [zn_o0 h1.1]
      exact ⟨h1.1, Or.inl, fun q => q.elim id (fun q => absurd q (by decide))⟩
    · rw [zn_o1 h1.1]
      exact ⟨Or.inr rfl, fun _ => Or.inr rfl, fun _ => rfl⟩
  have skip : ∀ {V : Nat → Nat → Nat → Prop} {k : Nat} {c : Int32}, cl_ci g V k c → ¬ un_pa g k → cl_ci g V (k + 1) c := by
    intro V k c h1 h2
    refine ⟨h1.1, h1.2.trans ⟨fun ⟨p, z1, z2⟩ => ⟨p, by omega, z2⟩, fun ⟨p, z1, z2⟩ => ⟨p, ?_, z2⟩⟩⟩
    by_cases e : p = k
    · subst e; exact absurd z2.1 h2
    · omega
  have loop := zn_for (σ := za_M) (N := gq_np g)
    (P := fun k μ1 => ∀ y : Int32, y = nI k → ZZ 12 [some (za_r 20 0), some (za_r 1 0), some (za_i y)] [] μ1 (0, 0))
    (I := fun k μ1 => cl_ci g (fun _ => un_no) k (μ1.1 20 0 1) ∧ cl_ci g (un_Q (un_Y g)) k (μ1.1 20 0 2) ∧ μ1.1 20 0 0 = μ.1 20 0 0 ∧ μ1.1 21 0 = μ.1 21 0 ∧ μ1.2 22 0 = μ.2 22 0 ∧ μ1.2 23 0 = μ.2 23 0 ∧ zq_fr cl_rS μ μ1)
    (fun μ1 h y hy => by
      have hC1 := cl_rg hC h.2.2.2.2.2.2
      refine run [12] 80 12 _ _ _ _ ?_
      refine ⟨fun _ => ?_, fun q => absurd (by rw [hC1.2.1, hy]; exact Int32.le_refl _) q⟩
      exact ⟨rfl, rfl, Nat.le_refl _, Nat.le_refl _, rfl, h⟩)
    (fun k μ1 hk h ih y hy => by
      obtain ⟨i1, i2, i3, i4, i5, i6, i7⟩ := h
      have hC1 := cl_rg hC i7
      obtain ⟨c1, c2, c3, c4, c5, c6⟩ := gq_Cp hg hC1 hy hk
      refine run [12] 80 12 _ _ _ _ ?_
      refine ⟨fun q => absurd q (zn_ge hy hC1.2.1 hk (by omega)), fun _ => ?_⟩
      refine ⟨d - 1, 0, 0, _, _, by omega, Nat.le_refl _, Nat.le_refl _, ct_R_allPartsExist hg hC1 hy hk (by omega), ?_, fun _ _ h => h.elim⟩
      rintro r μ2 ⟨⟨v, rfl, hv, hv1⟩, rfl⟩
      have hpa : v = 1 ↔ un_pa g k := by
        rw [hv1]
        unfold un_pa
        rw [← eX]
        exact ⟨fun q o a b => (cl_xs μ (gq_sy8 hg hk b)).mpr ((h01 _ (gq_sy8 hg hk b)).resolve_left (by rw [← i4]; exact q o a b)), fun q o a b z => by
          have := (cl_xs μ (gq_sy8 hg hk b)).mp (q o a b)
          rw [← i4, z] at this
          exact absurd this (by decide)⟩
      refine ⟨fun hq => ?_, fun hq => ?_⟩
      · have hyes := hpa.mp (zn_or01 hv hq)
        have hX1 : ∀ i, lf_V 520 (cl_x μ2) i ↔ un_X g i := by rw [cl_xc i4 i5]; exact hX
        have hY1 : ∀ i, lf_V 512 (cl_y μ2) i ↔ un_Y g i := by rw [cl_yc i6]; exact hY
        have eX1 : lf_V 520 (cl_x μ2) = un_X g := funext fun i => propext (hX1 i)
        refine ⟨c2, ?_⟩
        refine ⟨d - 1, 0, 0, _, _, by omega, Nat.le_refl _, Nat.le_refl _, ct_B_start (by omega), ?_, fun _ _ h => h.elim⟩
        rintro r μ3 ⟨rfl, s1, s2, s3⟩
        have f3 := cl_rB (zq_up s3 (fun _ _ q => q) : zq_fr (bd_fS 4) μ2 μ3)
        have hB : bd_S μ3 4 (fun _ => False) (bd_N g k) := bd_S0 (fun i hi => by rw [s1 i hi]; exact c6 i hi) s2
        refine ⟨d - 1, 0, 0, _, _, by omega, Nat.le_refl _, Nat.le_refl _, ct_R_joinParts (but := 0) hg (cl_rg hC1 f3) hy rfl (by decide) hk hB (fun v q => q.elim) (by omega), ?_, fun _ _ h => h.elim⟩
        rintro r μ4 ⟨rfl, j1, j2⟩
        have f4 := zq_tr f3 (cl_rB j2)
        have hcU : cl_U μ3 = cl_U μ2 := by unfold cl_U; rw [s3.2 22 0 (by decide)]
        rw [hcU] at j1
        obtain ⟨_, B2, B3⟩ := cl_BU hg hk (fun i => (hX1 i).mp) j1
        rw [eX1] at B3
        have a20 : μ4.1 20 0 = μ2.1 20 0 := by rw [j2.1 20 0 (by unfold bd_fS; decide), s3.1 20 0 (by decide)]
        have a21 : μ4.1 21 0 = μ2.1 21 0 := by rw [j2.1 21 0 (by unfold bd_fS; decide), s3.1 21 0 (by decide)]
        have a22 : μ4.2 22 0 = μ2.2 22 0 := by rw [j2.2 22 0 (by unfold bd_fS; decide), s3.2 22 0 (by decide)]
        have a23 : μ4.2 23 0 = μ2.2 23 0 := by rw [j2.2 23 0 (by unfold bd_fS; decide), s3.2 23 0 (by decide)]
        have n1 := step (c := μ4.1 20 0 1) (by rw [a20]; exact i1) hyes B2 B3
        refine ⟨n1.1, ?_⟩
        generalize hμ5 : ((za_u μ4.1 20 0 1 (μ4.1 20 0 1 ||| μ4.1 18 4 1), μ4.2) : za_M) = μ5
        have f5 : zq_fr cl_rS μ μ5 := by rw [← hμ5]; exact zq_u (zq_tr i7 f4) (Or.inr ⟨by decide, rfl⟩)
        have g1 : μ5.1 20 0 1 = μ4.1 20 0 1 ||| μ4.1 18 4 1 := by rw [← hμ5]; dsimp only; rw [za_u_same]
        have g2 : μ5.1 20 0 2 = μ2.1 20 0 2 := by rw [← hμ5]; dsimp only; rw [za_u_i (by decide), a20]
        have g0 : μ5.1 20 0 0 = μ2.1 20 0 0 := by rw [← hμ5]; dsimp only; rw [za_u_i (by decide), a20]
        have g21 : μ5.1 21 0 = μ2.1 21 0 := by rw [← hμ5]; dsimp only; rw [za_u_b (show (21 : Nat) ≠ 20 by decide), a21]
        have g22 : μ5.2 22 0 = μ2.2 22 0 := by rw [← hμ5]; exact a22
        have g23 : μ5.2 23 0 = μ2.2 23 0 := by rw [← hμ5]; exact a23
        have hC5 := cl_rg hC f5
        have hX5 : ∀ i, lf_V 520 (cl_x μ5) i ↔ un_X g i := by rw [cl_xc g21 g22]; exact hX1
        have hY5 : ∀ i, lf_V 512 (cl_y μ5) i ↔ un_Y g i := by rw [cl_yc g23]; exact hY1
        refine ⟨d - 1, 0, 0, _, _, by omega, Nat.le_refl _, Nat.le_refl _, ct_R_startWithHead hg hC5 hy hk (by omega), ?_, fun _ _ h => h.elim⟩
        rintro r μ6 ⟨rfl, s5, s6⟩
        refine ⟨d - 1, 0, 0, _, _, by omega, Nat.le_refl _, Nat.le_refl _, ct_R_joinParts (but := 0) hg (cl_rg hC5 (cl_rB s6)) hy rfl (by decide) hk s5 (fun v q => by omega) (by omega), ?_, fun _ _ h => h.elim⟩
        rintro r μ7 ⟨rfl, j5, j6⟩
        have f7 := zq_tr (zq_tr f5 (cl_rB s6)) (cl_rB j6)
        have hcU : cl_U μ6 = cl_U μ5 := by unfold cl_U; rw [s6.2 22 0 (by unfold bd_fS; decide)]
        rw [hcU] at j5
        obtain ⟨_, B5, B6⟩ := cl_BV hg hk (fun i => (hX5 i).mp) (fun i => (hY5 i).mp) j5
        rw [show lf_V 520 (cl_x μ5) = un_X g from funext fun i => propext (hX5 i), show lf_V 512 (cl_y μ5) = un_Y g from funext fun i => propext (hY5 i)] at B6
        have b20 : μ7.1 20 0 = μ5.1 20 0 := by rw [j6.1 20 0 (by unfold bd_fS; decide), s6.1 20 0 (by unfold bd_fS; decide)]
        have b21 : μ7.1 21 0 = μ5.1 21 0 := by rw [j6.1 21 0 (by unfold bd_fS; decide), s6.1 21 0 (by unfold bd_fS; decide)]
        have b22 : μ7.2 22 0 = μ5.2 22 0 := by rw [j6.2 22 0 (by unfold bd_fS; decide), s6.2 22 0 (by unfold bd_fS; decide)]
        have b23 : μ7.2 23 0 = μ5.2 23 0 := by rw [j6.2 23 0 (by unfold bd_fS; decide), s6.2 23 0 (by unfold bd_fS; decide)]
        have n2 := step (V := un_Q (un_Y g)) (c := μ7.1 20 0 2) (by rw [b20, g2]; exact i2) hyes B5 B6
        refine ⟨n2.1, ?_⟩
        refine ih _ ⟨?_, ?_, ?_, ?_, ?_, ?_, zq_u f7 (Or.inr ⟨by decide, rfl⟩)⟩ _ (zn_s hy)
        · dsimp only
          rw [za_u_i (show (1 : Nat) ≠ 2 by decide), b20, g1]
          exact n1
        · dsimp only
          rw [za_u_same]
          exact n2
        · dsimp only
          rw [za_u_i (show (0 : Nat) ≠ 2 by decide), b20, g0]
          exact i3
        · dsimp only
          rw [za_u_b (show (21 : Nat) ≠ 20 by decide), b21, g21]
          exact i4
        · dsimp only
          rw [b22, g22]
          exact i5
        · dsimp only
          rw [b23, g23]
          exact i6
      · have hno : ¬ un_pa g k := fun z => by rw [hpa.mpr z] at hq; exact absurd hq (by decide)
        exact ih _ ⟨skip i1 hno, skip i2 hno, i3, i4, i5, i6, i7⟩ _ (zn_s hy))
  refine run [12] 80 0 _ _ _ _ ?_
  refine ⟨Or.inl rfl, Or.inl rfl, ?_⟩
  refine loop 0 (za_u (za_u μ.1 20 0 1 0) 20 0 2 0, μ.2) (Nat.zero_le _) ⟨?_, ?_, ?_, ?_, rfl, rfl, zq_u (zq_u zq_rf (Or.inr ⟨by decide, rfl⟩)) (Or.inr ⟨by decide, rfl⟩)⟩ 0 rfl
  · dsimp only
    rw [za_u_i (show (1 : Nat) ≠ 2 by decide), za_u_same]
    exact ⟨Or.inl rfl, fun q => absurd q (by decide), fun ⟨p, q, _⟩ => absurd q (Nat.not_lt_zero p)⟩
  · dsimp only
    rw [za_u_same]
    exact ⟨Or.inl rfl, fun q => absurd q (by decide), fun ⟨p, q, _⟩ => absurd q (Nat.not_lt_zero p)⟩
  · dsimp only
    rw [za_u_i (show (0 : Nat) ≠ 2 by decide), za_u_i (show (0 : Nat) ≠ 1 by decide)]
  · dsimp only
    rw [za_u_b (show (21 : Nat) ≠ 20 by decide), za_u_b (show (21 : Nat) ≠ 20 by decide)]
