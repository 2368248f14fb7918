set_option maxHeartbeats 16000000 in
theorem ct_M_relate {Γ : zk_G} {d : Nat} {μ : za_M} {g : gq_G} (hg : gq_ok g) (hM : gq_M g μ) (hk : μ.1 30 0 14 = 0 ∨ μ.1 30 0 14 = 1 ∧ mo_fin g μ) (hd : 3 ≤ d) : zk_Ct zt Γ zm_M_relate d 0 0 [za_r 30 0] μ
    (fun r μ' => r = none ∧ mo_fin g μ' ∧ mo_rb μ μ') (fun _ _ => False) := by
  refine zs_M_relate (Nat.le_of_ble_eq_true rfl) (by omega) (fun ZZ run => ?_)
  rcases hk with hk | ⟨hk, hfin⟩
  case inr =>
    refine run [] 20 0 _ _ _ _ ?_
    refine ⟨fun q => absurd (hk.symm.trans q) (by decide), fun _ => ?_⟩
    exact ⟨rfl, rfl, Nat.le_refl _, Nat.le_refl _, rfl, hfin, zq_rf, fun _ _ _ _ => rfl, hk⟩
  have hnp : gq_np g ≤ 16 := hg.2.1
  -- the third part: circles
  have ph3 : ∀ (μa : za_M) (n1 : Int32) (l2 l3 l4 : Option za_V), mo_rb μ μa → mo_ub μa → mo_vb μa → mo_01 μa → (∀ i, lf_V 520 (mo_x μa) i ↔ un_X g i) → (∀ i, lf_V 512 (mo_y μa) i ↔ un_Y g i) → ZZ 193 [some (za_r 30 0), some (za_i n1), l2, l3, l4] [] μa (0, 0) := by
    intro μa n1 l2 l3 l4 hb hub hvb h01 hX hY
    have eX : lf_V 520 (mo_x μa) = un_X g := funext fun i => propext (hX i)
    have eY : lf_V 512 (mo_y μa) = un_Y g := funext fun i => propext (hY i)
    have loop := zn_for (σ := za_M) (N := gq_np g)
      (P := fun k μ1 => ∀ y : Int32, y = nI k → ZZ 205 [some (za_r 30 0), some (za_i n1), some (za_i y), l3, l4] [] μ1 (0, 0))
      (I := fun k μ1 => mo_rb μ μ1 ∧ (μ1.1 39 0 = μa.1 39 0 ∧ μ1.1 40 0 = μa.1 40 0 ∧ μ1.1 41 0 = μa.1 41 0) ∧ ((μ1.1 30 0 18 = 0 ∨ μ1.1 30 0 18 = 1) ∧ (μ1.1 30 0 18 = 1 ↔ ¬ ∃ p, p < k ∧ un_c g p (fun _ => un_no))) ∧ ((μ1.1 30 0 19 = 0 ∨ μ1.1 30 0 19 = 1) ∧ (μ1.1 30 0 19 = 1 ↔ ¬ ∃ p, p < k ∧ un_c g p (un_Q (un_Y g)))))
      (fun μ1 h y hy => by
        obtain ⟨i1, ⟨i2, i3, i4⟩, i5, i6⟩ := h
        have hM1 := mo_rbM hM i1
        refine run [205] 80 205 _ _ _ _ ?_
        refine ⟨fun _ => ?_, fun q => absurd (by rw [hM1.2.1, hy]; exact Int32.le_refl _) q⟩
        refine ⟨rfl, rfl, Nat.le_refl _, Nat.le_refl _, rfl, ⟨?_, ?_, ?_, ⟨?_, ?_⟩, i5, i6⟩, i1⟩
        · rw [mo_xc i2 i3]; exact hX
        · rw [mo_yc i4]; exact hY
        · intro s hs; rw [i2]; exact h01 s hs
        · intro i y; rw [i3]; exact hub i y
        · intro i y; rw [i4]; exact hvb i y)
      (fun k μ1 hk h ih y hy => by
        obtain ⟨i1, ⟨i2, i3, i4⟩, i5, i6⟩ := h
        have hM1 := mo_rbM hM i1
        have h011 : mo_01 μ1 := fun s hs => by rw [i2]; exact h01 s hs
        have hub1 : mo_ub μ1 := fun i y => by rw [i3]; exact hub i y
        have hvb1 : mo_vb μ1 := fun i y => by rw [i4]; exact hvb i y
        have hk16 : k < 16 := by omega
        have hs0 := gq_sy8 hg hk (Nat.zero_le _)
        have eX1 : lf_V 520 (mo_x μ1) = un_X g := by rw [mo_xc i2 i3]; exact eX
        have eY1 : lf_V 512 (mo_y μ1) = un_Y g := by rw [mo_yc i4]; exact eY
        refine run [205, 259] 90 205 _ _ _ _ ?_
        refine ⟨fun q => absurd q (zn_ge hy hM1.2.1 hk (by omega)), fun _ => ?_⟩
        refine ⟨d - 1, 0, 0, _, _, by omega, Nat.le_refl _, Nat.le_refl _, ct_M_allHave hg hM1 h011 hy hk (by omega), ?_, fun _ _ h => h.elim⟩
        rintro r μ2 ⟨⟨v, rfl, hv, hv1⟩, rfl⟩
        have hpa : v = 1 ↔ un_pa g k := by
          rw [hv1, mo_pa hg hk, eX1]
          exact Iff.rfl
        refine ⟨fun hq => ?_, fun hq => ?_⟩
        · have hno : ¬ un_pa g k := fun z => by rw [hpa.mpr z] at hq; exact absurd hq (by decide)
          have key : ∀ V, (∃ p, p < k + 1 ∧ un_c g p V) ↔ (∃ p, p < k ∧ un_c g p V) := fun V => ⟨fun ⟨p, z1, z2⟩ => ⟨p, by
            by_cases e : p = k
            · subst e; exact absurd z2.1 hno
            · omega, z2⟩, fun ⟨p, z1, z2⟩ => ⟨p, by omega, z2⟩⟩
          refine ih _ ⟨i1, ⟨i2, i3, i4⟩, ⟨i5.1, ?_⟩, ⟨i6.1, ?_⟩⟩ _ (zn_s hy)
          · rw [key]; exact i5.2
          · rw [key]; exact i6.2
        · have hyes : un_pa g k := hpa.mp (zn_or01 hv hq)
          have key : ∀ V, (∃ p, p < k + 1 ∧ un_c g p V) ↔ ((∃ p, p < k ∧ un_c g p V) ∨ ∃ u, pq_T (fun _ => True) (un_E g k 0 (un_P (un_X g)) (V (gq_sy g k 0))) u u) := fun V => ⟨fun ⟨p, z1, z2⟩ => by
            by_cases e : p = k
            · subst e; exact Or.inr z2.2
            · exact Or.inl ⟨p, by omega, z2⟩, fun z => z.elim (fun ⟨p, z1, z2⟩ => ⟨p, by omega, z2⟩) (fun z => ⟨k, by omega, hyes, z⟩)⟩
          have sS : ∀ b j : Nat, b = 38 ∧ j = 0 → (b = 38 ∨ b = 39 ∨ b = 40 ∨ b = 41) ∧ j = 0 := fun b j q => ⟨Or.inl q.1, q.2⟩
          -- the second half, behind the first circle
          have half : ∀ (μs : za_M), mo_rb μ μs → (μs.1 39 0 = μa.1 39 0 ∧ μs.1 40 0 = μa.1 40 0 ∧ μs.1 41 0 = μa.1 41 0) → ((μs.1 30 0 18 = 0 ∨ μs.1 30 0 18 = 1) ∧ (μs.1 30 0 18 = 1 ↔ ¬ ∃ p, p < k + 1 ∧ un_c g p (fun _ => un_no))) → ((μs.1 30 0 19 = 0 ∨ μs.1 30 0 19 = 1) ∧ (μs.1 30 0 19 = 1 ↔ ¬ ∃ p, p < k ∧ un_c g p (un_Q (un_Y g)))) → ZZ 259 [some (za_r 30 0), some (za_i n1), some (za_i y), l3, l4] [] μs (0, 0) := by
            intro μs j1 ⟨j2, j3, j4⟩ j5 j6
            have hMs := mo_rbM hM j1
            have hubs : mo_ub μs := fun i y => by rw [j3]; exact hub i y
            have hvbs : mo_vb μs := fun i y => by rw [j4]; exact hvb i y
            refine run [205] 90 259 _ _ _ _ ?_
            refine ⟨d - 1, 0, 0, _, _, by omega, Nat.le_refl _, Nat.le_refl _, ct_M_takeDepends hy (by omega) hk16, ?_, fun _ _ h => h.elim⟩
            rintro r μ4 ⟨rfl, t1, t2⟩
            have b4 := mo_rbt j1 t2 sS
            refine ⟨d - 1, 0, 0, _, _, by omega, Nat.le_refl _, Nat.le_refl _, ct_M_addUnions (but := 0) hg (mo_rbM hM b4) hy rfl (by decide) hk (by omega), ?_, fun _ _ h => h.elim⟩
            rintro r μ5 ⟨rfl, u1, u2⟩
            have b5 := mo_rbt b4 u2 sS
            refine ⟨d - 1, 0, 0, _, _, by omega, Nat.le_refl _, Nat.le_refl _, ct_M_addAboves hg (mo_rbM hM b5) hy hk (by omega), ?_, fun _ _ h => h.elim⟩
            rintro r μ6 ⟨rfl, a1, a2⟩
            have b6 := mo_rbt b5 a2 sS
            refine ⟨d - 1, 0, 0, _, _, by omega, Nat.le_refl _, Nat.le_refl _, ct_M_follow (by omega), ?_, fun _ _ h => h.elim⟩
            rintro r μ7 ⟨rfl, w1, w2⟩
            have b7 := mo_rbt b6 w2 sS
            have hnd : ∀ i, i < 32 → μ4.1 38 0 i = gq_nd g k i := fun i hi => by
              rw [t1 i hi, hMs.2.2.2.2 k i hk16 hi, if_pos hk]
            have e40 : μ4.1 40 0 = μs.1 40 0 := by rw [t2.1 40 0 (by decide)]
            have e41 : μ5.1 41 0 = μs.1 41 0 := by rw [u2.1 41 0 (by decide), t2.1 41 0 (by decide)]
            have hE : ∀ x y, un_E g k 0 (mo_U μs) (mo_V μs (gq_sy g k 0)) x y ↔ un_E g k 0 (un_P (un_X g)) (un_Q (un_Y g) (gq_sy g k 0)) x y := fun x y => by
              rw [mo_eU hg hk hubs, mo_eV hs0 hvbs, mo_xc j2 j3, mo_yc j4, eX, eY]
            have hci : mo_c (μ7.1 38 0) 32 ↔ ∃ u, pq_T (fun _ => True) (un_E g k 0 (un_P (un_X g)) (un_Q (un_Y g) (gq_sy g k 0))) u u := by
              rw [← mo_c_is (r := μ6.1 38 0) un_E_lt (fun x y hx => by
                have := (mo_ua_is (but := 0) hg hk hubs hvbs hnd x y hx).2
                rw [a1 x hx, ← hE, ← this, e41, ← e40]
                unfold mo_la
                rw [u1 x hx])]
              exact ⟨fun ⟨i, z1, z2⟩ => ⟨i, z1, by rw [← w1 i z1]; exact z2⟩, fun ⟨i, z1, z2⟩ => ⟨i, z1, by rw [w1 i z1]; exact z2⟩⟩
            have c39 : μ7.1 39 0 = μa.1 39 0 ∧ μ7.1 40 0 = μa.1 40 0 ∧ μ7.1 41 0 = μa.1 41 0 := by
              rw [w2.1 39 0 (by decide), w2.1 40 0 (by decide), w2.1 41 0 (by decide), a2.1 39 0 (by decide), a2.1 40 0 (by decide), a2.1 41 0 (by decide), u2.1 39 0 (by decide), u2.1 40 0 (by decide), u2.1 41 0 (by decide), t2.1 39 0 (by decide), t2.1 40 0 (by decide), t2.1 41 0 (by decide)]
              exact ⟨j2, j3, j4⟩
            have c30 : μ7.1 30 0 = μs.1 30 0 := by
              rw [w2.1 30 0 (by decide), a2.1 30 0 (by decide), u2.1 30 0 (by decide), t2.1 30 0 (by decide)]
            have fin : ∀ w : Int32, (w = 0 ∨ w = 1) → (w = 1 ↔ (μ7.1 30 0 19 = 1 ∧ ¬ mo_c (μ7.1 38 0) 32)) → ZZ 205 [some (za_r 30 0), some (za_i n1), some (za_i (y + 1)), l3, l4] [] (za_u μ7.1 30 0 19 w, μ7.2) (0, 0) := by
              intro w hw hw1
              refine ih _ ⟨mo_rbu b7 (Or.inr rfl) w, ?_, ?_, ?_⟩ _ (zn_s hy)
              · dsimp only
                rw [za_u_b (show (39 : Nat) ≠ 30 by decide), za_u_b (show (40 : Nat) ≠ 30 by decide), za_u_b (show (41 : Nat) ≠ 30 by decide)]
                exact c39
              · dsimp only
                rw [za_u_i (show (18 : Nat) ≠ 19 by decide), c30]
                exact j5
              · dsimp only
                rw [za_u_same]
                refine ⟨hw, hw1.trans ?_⟩
                rw [key, hci, c30, j6.2]
                exact ⟨fun z q => q.elim z.1 z.2, fun z => ⟨fun q => z (Or.inl q), fun q => z (Or.inr q)⟩⟩
            refine ⟨fun hq => ?_, fun hq => ?_⟩
            · exact ⟨Or.inl rfl, fin 0 (Or.inl rfl) ⟨fun q => absurd q (by decide), fun q => absurd (q.1.symm.trans hq) (by decide)⟩⟩
            · refine ⟨d - 1, 0, 0, _, _, by omega, Nat.le_refl _, Nat.le_refl _, ct_M_hasCircle (by omega), ?_, fun _ _ h => h.elim⟩
              rintro r μ8 ⟨⟨v2, rfl, hv2, hv3⟩, rfl⟩
              have h19 : μ8.1 30 0 19 = 1 := by rw [c30] at hq ⊢; exact j6.1.resolve_left hq
              refine ⟨fun hq2 => ?_, fun hq2 => ?_⟩
              · exact ⟨Or.inl rfl, fin 0 (Or.inl rfl) ⟨fun q => absurd q (by decide), fun q => absurd (hv3.mp (zn_or01 hv2 hq2)) q.2⟩⟩
              · exact ⟨Or.inr rfl, fin 1 (Or.inr rfl) ⟨fun _ => ⟨h19, fun q => by rw [hv3.mpr q] at hq2; exact absurd hq2 (by decide)⟩, fun _ => rfl⟩⟩
          refine ⟨d - 1, 0, 0, _, _, by omega, Nat.le_refl _, Nat.le_refl _, ct_M_takeDepends hy (by omega) hk16, ?_, fun _ _ h => h.elim⟩
          rintro r μ4 ⟨rfl, t1, t2⟩
          have b4 := mo_rbt i1 t2 sS
          refine ⟨d - 1, 0, 0, _, _, by omega, Nat.le_refl _, Nat.le_refl _, ct_M_addUnions (but := 0) hg (mo_rbM hM b4) hy rfl (by decide) hk (by omega), ?_, fun _ _ h => h.elim⟩
          rintro r μ5 ⟨rfl, u1, u2⟩
          have b5 := mo_rbt b4 u2 sS
          refine ⟨d - 1, 0, 0, _, _, by omega, Nat.le_refl _, Nat.le_refl _, ct_M_follow (by omega), ?_, fun _ _ h => h.elim⟩
          rintro r μ7 ⟨rfl, w1, w2⟩
          have b7 := mo_rbt b5 w2 sS
          have hnd : ∀ i, i < 32 → μ4.1 38 0 i = gq_nd g k i := fun i hi => by
            rw [t1 i hi, hM1.2.2.2.2 k i hk16 hi, if_pos hk]
          have e40 : μ4.1 40 0 = μ2.1 40 0 := by rw [t2.1 40 0 (by decide)]
          have hci : mo_c (μ7.1 38 0) 32 ↔ ∃ u, pq_T (fun _ => True) (un_E g k 0 (un_P (un_X g)) un_no) u u := by
            rw [← mo_c_is (r := μ5.1 38 0) un_E_lt (fun x y hx => by
              have := mo_lu_is (but := 0) hg hk hub1 hnd x y hx
              rw [u1 x hx, e40, this, mo_eU hg hk hub1, eX1])]
            exact ⟨fun ⟨i, z1, z2⟩ => ⟨i, z1, by rw [← w1 i z1]; exact z2⟩, fun ⟨i, z1, z2⟩ => ⟨i, z1, by rw [w1 i z1]; exact z2⟩⟩
          have c39 : μ7.1 39 0 = μa.1 39 0 ∧ μ7.1 40 0 = μa.1 40 0 ∧ μ7.1 41 0 = μa.1 41 0 := by
            rw [w2.1 39 0 (by decide), w2.1 40 0 (by decide), w2.1 41 0 (by decide), u2.1 39 0 (by decide), u2.1 40 0 (by decide), u2.1 41 0 (by decide), t2.1 39 0 (by decide), t2.1 40 0 (by decide), t2.1 41 0 (by decide)]
            exact ⟨i2, i3, i4⟩
          have c30 : μ7.1 30 0 = μ2.1 30 0 := by
            rw [w2.1 30 0 (by decide), u2.1 30 0 (by decide), t2.1 30 0 (by decide)]
          have fin : ∀ w : Int32, (w = 0 ∨ w = 1) → (w = 1 ↔ (μ7.1 30 0 18 = 1 ∧ ¬ mo_c (μ7.1 38 0) 32)) → ZZ 259 [some (za_r 30 0), some (za_i n1), some (za_i y), l3, l4] [] (za_u μ7.1 30 0 18 w, μ7.2) (0, 0) := by
            intro w hw hw1
            refine half _ (mo_rbu b7 (Or.inl rfl) w) ?_ ?_ ?_
            · dsimp only
              rw [za_u_b (show (39 : Nat) ≠ 30 by decide), za_u_b (show (40 : Nat) ≠ 30 by decide), za_u_b (show (41 : Nat) ≠ 30 by decide)]
              exact c39
            · dsimp only
              rw [za_u_same]
              refine ⟨hw, hw1.trans ?_⟩
              rw [key, hci, c30, i5.2]
              exact ⟨fun z q => q.elim z.1 z.2, fun z => ⟨fun q => z (Or.inl q), fun q => z (Or.inr q)⟩⟩
            · dsimp only
              rw [za_u_i (show (19 : Nat) ≠ 18 by decide), c30]
              exact i6
          refine ⟨fun hq => ?_, fun hq => ?_⟩
          · exact ⟨Or.inl rfl, fin 0 (Or.inl rfl) ⟨fun q => absurd q (by decide), fun q => absurd (q.1.symm.trans hq) (by decide)⟩⟩
          · refine ⟨d - 1, 0, 0, _, _, by omega, Nat.le_refl _, Nat.le_refl _, ct_M_hasCircle (by omega), ?_, fun _ _ h => h.elim⟩
            rintro r μ8 ⟨⟨v2, rfl, hv2, hv3⟩, rfl⟩
            have h18 : μ8.1 30 0 18 = 1 := by rw [c30] at hq ⊢; exact i5.1.resolve_left hq
            refine ⟨fun hq2 => ?_, fun hq2 => ?_⟩
            · exact ⟨Or.inl rfl, fin 0 (Or.inl rfl) ⟨fun q => absurd q (by decide), fun q => absurd (hv3.mp (zn_or01 hv2 hq2)) q.2⟩⟩
            · exact ⟨Or.inr rfl, fin 1 (Or.inr rfl) ⟨fun _ => ⟨h18, fun q => by rw [hv3.mpr q] at hq2; exact absurd hq2 (by decide)⟩, fun _ => rfl⟩⟩)
    refine run [205] 80 193 _ _ _ _ ?_
    refine ⟨Or.inr rfl, Or.inr rfl, ?_⟩
    refine loop 0 _ (Nat.zero_le _) ⟨mo_rbu (mo_rbu hb (Or.inl rfl) 1) (Or.inr rfl) 1, ?_, ?_, ?_⟩ 0 rfl
    · dsimp only
      rw [za_u_b (show (39 : Nat) ≠ 30 by decide), za_u_b (show (40 : Nat) ≠ 30 by decide), za_u_b (show (41 : Nat) ≠ 30 by decide), za_u_b (show (39 : Nat) ≠ 30 by decide), za_u_b (show (40 : Nat) ≠ 30 by decide), za_u_b (show (41 : Nat) ≠ 30 by decide)]
      exact ⟨rfl, rfl, rfl⟩
    · dsimp only
      rw [za_u_i (show (18 : Nat) ≠ 19 by decide), za_u_same]
      exact ⟨Or.inr rfl, fun _ ⟨p, q, _⟩ => absurd q (Nat.not_lt_zero p), fun _ => rfl⟩
    · dsimp only
      rw [za_u_same]
      exact ⟨Or.inr rfl, fun _ ⟨p, q, _⟩ => absurd q (Nat.not_lt_zero p), fun _ => rfl⟩
  -- the second part: from above
  have ph2 : ∀ (μa : za_M) (n1 : Int32) (l2 l3 l4 : Option za_V), mo_rb μ μa → mo_ub μa → mo_vb μa → mo_01 μa → (∀ i, lf_V 520 (mo_x μa) i ↔ un_X g i) → (∀ i, ¬ lf_V 512 (mo_y μa) i) → ZZ 114 [some (za_r 30 0), some (za_i n1), l2, l3, l4] [] μa (0, 0) := by
    intro μa n1 l2 l3 l4 hb hub hvb h01 hX hY
    have wh := zn_wh (σ := za_M × Int32 × Option za_V × Option za_V × Option za_V)
      (P := fun t => ZZ 116 [some (za_r 30 0), some (za_i t.2.1), t.2.2.1, t.2.2.2.1, t.2.2.2.2] [] t.1 (0, 0))
      (I := fun t => mo_rb μ t.1 ∧ mo_ub t.1 ∧ mo_vb t.1 ∧ mo_01 t.1 ∧ (∀ i, lf_V 520 (mo_x t.1) i ↔ un_X g i) ∧ lf_H (un_W g) (3 * gq_np g) 512 (mo_y t.1) t.2.1)
      (fun t => 2 * ct_n (mo_y t.1) 512 + t.2.1.toNatClampNeg)
      (fun t0 h ihw => by
        obtain ⟨w1, w2, w3, w4, w5, w6⟩ := h
        refine run [116, 124, 193] 80 116 _ _ _ _ ?_
        refine ⟨fun hq => ?_, fun hq => ?_⟩
        · exact ph3 _ _ _ _ _ w1 w2 w3 w4 w5 (w6.2.2 hq)
        · have hq1 := zn_or01 w6.1 hq
          have loop := zn_for (σ := za_M × Int32 × Option za_V × Option za_V) (N := gq_np g)
            (P := fun k t => ∀ y : Int32, y = nI k → ZZ 124 [some (za_r 30 0), some (za_i t.2.1), some (za_i y), t.2.2.1, t.2.2.2] [] t.1 (0, 0))
            (I := fun k t => mo_rb μ t.1 ∧ mo_ub t.1 ∧ mo_vb t.1 ∧ mo_01 t.1 ∧ (∀ i, lf_V 520 (mo_x t.1) i ↔ un_X g i) ∧ lf_I (un_W g) (3 * gq_np g) 512 (mo_y t0.1) (3 * k) (mo_y t.1) t.2.1)
            (fun t h y hy => by
              obtain ⟨i1, i2, i3, i4, i5, i6⟩ := h
              have hM1 := mo_rbM hM i1
              refine run [116, 124] 80 124 _ _ _ _ ?_
              refine ⟨fun _ => ?_, fun q => absurd (by rw [hM1.2.1, hy]; exact Int32.le_refl _) q⟩
              exact ihw (t.1, t.2.1, some (za_i y), t.2.2.1, t.2.2.2) ⟨i1, i2, i3, i4, i5, lf_IH i6⟩ (lf_Im i6 hq1))
            (fun k t hk h ih y hy => by
              obtain ⟨i1, i2, i3, i4, i5, i6⟩ := h
              have hM1 := mo_rbM hM i1
              have inner := zn_for (σ := za_M × Int32 × Option za_V) (N := 4)
                (P := fun n u => 1 ≤ n → ∀ z : Int32, z = nI n → ZZ 134 [some (za_r 30 0), some (za_i u.2.1), some (za_i y), some (za_i z), u.2.2] [] u.1 (0, 0))
                (I := fun n u => mo_rb μ u.1 ∧ mo_ub u.1 ∧ mo_vb u.1 ∧ mo_01 u.1 ∧ (∀ i, lf_V 520 (mo_x u.1) i ↔ un_X g i) ∧ lf_I (un_W g) (3 * gq_np g) 512 (mo_y t0.1) (3 * k + (n - 1)) (mo_y u.1) u.2.1)
                (fun u h h1 z hz => by
                  obtain ⟨j1, j2, j3, j4, j5, j6⟩ := h
                  refine run [124, 134] 80 134 _ _ _ _ ?_
                  refine ⟨fun _ => ?_, fun q => absurd (by rw [hz]; exact nI_le (Nat.le_refl 4) (by decide)) q⟩
                  exact ih (u.1, u.2.1, some (za_i z), u.2.2) ⟨j1, j2, j3, j4, j5, j6⟩ _ (zn_s hy))
                (fun n u hn h ih2 h1 z hz => by
                  obtain ⟨j1, j2, j3, j4, j5, j6⟩ := h
                  have hM2 := mo_rbM hM j1
                  obtain ⟨t, rfl⟩ : ∃ t, n = t + 1 := ⟨n - 1, by omega⟩
                  have j6 : lf_I (un_W g) (3 * gq_np g) 512 (mo_y t0.1) (3 * k + t) (mo_y u.1) u.2.1 := j6
                  have at163 : ∀ (ν : za_M) (w : Int32), mo_rb μ ν → mo_ub ν → mo_vb ν → mo_01 ν → (∀ i, lf_V 520 (mo_x ν) i ↔ un_X g i) → (w = 0 ∨ w = 1) → (∀ v', (v' = 0 ∨ v' = 1) → (v' = 1 ↔ (u.2.1 = 1 ∨ w = 1)) → lf_I (un_W g) (3 * gq_np g) 512 (mo_y t0.1) (3 * k + t + 1) (mo_y ν) v') → ZZ 163 [some (za_r 30 0), some (za_i u.2.1), some (za_i y), some (za_i z), some (za_i w)] [] ν (0, 0) := by
                    intro ν w k1 k2 k3 k4 k5 k6 k7
                    refine run [134] 80 163 _ _ _ _ ?_
                    refine ⟨fun z1 => ?_, fun z1 => ⟨fun z2 => ?_, fun z2 => ?_⟩⟩
                    · exact ih2 (ν, 1, some (za_i w)) ⟨k1, k2, k3, k4, k5, k7 1 (Or.inr rfl) ⟨fun _ => Or.inl (zn_or01 j6.1 z1), fun _ => rfl⟩⟩ (by omega) _ (zn_s hz)
                    · exact ih2 (ν, 0, some (za_i w)) ⟨k1, k2, k3, k4, k5, k7 0 (Or.inl rfl) ⟨fun q => absurd q (by decide), fun q => q.elim (fun q => absurd (q.symm.trans z1) (by decide)) (fun q => absurd (q.symm.trans z2) (by decide))⟩⟩ (by omega) _ (zn_s hz)
                    · exact ih2 (ν, 1, some (za_i w)) ⟨k1, k2, k3, k4, k5, k7 1 (Or.inr rfl) ⟨fun _ => Or.inr (zn_or01 k6 z2), fun _ => rfl⟩⟩ (by omega) _ (zn_s hz)
                  refine run [134, 163] 80 134 _ _ _ _ ?_
                  refine ⟨fun q => absurd q (zn_ge hz rfl hn (by decide)), fun _ => ?_⟩
                  refine ⟨d - 1, 0, 0, _, _, by omega, Nat.le_refl _, Nat.le_refl _, ct_M_allHave hg hM2 j4 hy hk (by omega), ?_, fun _ _ h => h.elim⟩
                  rintro r μ2 ⟨⟨v, rfl, hv, hv1⟩, rfl⟩
                  have hpa : v = 1 ↔ un_pa g k := by
                    rw [hv1, mo_pa hg hk, show lf_V 520 (mo_x u.1) = un_X g from funext fun i => propext (j5 i)]
                    exact Iff.rfl
                  have hlt : 3 * k + t < 3 * gq_np g := by omega
                  refine ⟨fun hq => ?_, fun hq => ?_⟩
                  · have hno : ¬ un_pa g k := fun z => by rw [hpa.mpr z] at hq; exact absurd hq (by decide)
                    refine at163 _ 0 j1 j2 j3 j4 j5 (Or.inl rfl) (fun v' q1 q2 => ?_)
                    have hF : ∀ i, ¬ un_W g (3 * k + t) (lf_V 512 (mo_y u.1)) i := fun i q => hno (by
                      have := q.1.2
                      rw [show (3 * k + t) / 3 = k by omega] at this
                      exact this)
                    exact lf_Is (un_Wm g) (un_WN hg) j6 hlt (fun i _ => ⟨Or.inl, fun q => q.elim id (fun q => absurd q (hF i))⟩) q1 ⟨fun q => (q2.mp q).elim Or.inl (fun q => absurd q (by decide)), fun q => q2.mpr (q.elim Or.inl (fun ⟨i, q, _⟩ => absurd q (hF i)))⟩
                  · have hyes := hpa.mp (zn_or01 hv hq)
                    refine ⟨d - 1, 0, 0, _, _, by omega, Nat.le_refl _, Nat.le_refl _, ct_M_growAbove (o := t + 1) hg hM2 j2 j3 hy hz (by omega) hn hk (by omega), ?_, fun _ _ h => h.elim⟩
                    rintro r ν ⟨⟨v2, rfl, hv2, hv3⟩, g1, g2⟩
                    obtain ⟨m1, m2, m3⟩ := mo_ga hg (by omega) hk j2 j3 j5 hyes hv3 g1
                    have c1 : mo_rb μ ν := mo_rbt j1 g2 (fun b j q => ⟨by omega, q.2⟩)
                    have c39 : ν.1 39 0 = u.1.1 39 0 := by rw [g2.1 39 0 (by decide)]
                    have c40 : ν.1 40 0 = u.1.1 40 0 := by rw [g2.1 40 0 (by decide)]
                    have c2 : mo_ub ν := fun i y => by rw [c40]; exact j2 i y
                    have c4 : mo_01 ν := fun i => by rw [c39]; exact j4 i
                    have c5 : ∀ i, lf_V 520 (mo_x ν) i ↔ un_X g i := by rw [mo_xc c39 c40]; exact j5
                    refine ⟨fun hq2 => ?_, fun hq2 => ?_⟩
                    · refine at163 ν 0 c1 c2 m3 c4 c5 (Or.inl rfl) (fun v' q1 q2 => lf_Is (un_Wm g) (un_WN hg) j6 hlt m1 q1 (q2.trans ?_))
                      rw [← m2, hq2]
                    · refine at163 ν 1 c1 c2 m3 c4 c5 (Or.inr rfl) (fun v' q1 q2 => lf_Is (un_Wm g) (un_WN hg) j6 hlt m1 q1 (q2.trans ?_))
                      rw [← m2, zn_or01 hv2 hq2])
              refine run [124, 134] 80 124 _ _ _ _ ?_
              refine ⟨fun q => absurd q (zn_ge hy hM1.2.1 hk (by omega)), fun _ => ?_⟩
              exact inner 1 (t.1, t.2.1, t.2.2.2) (by decide) ⟨i1, i2, i3, i4, i5, i6⟩ (Nat.le_refl 1) 1 rfl)
          exact loop 0 (t0.1, 0, t0.2.2.2.1, t0.2.2.2.2) (Nat.zero_le _) ⟨w1, w2, w3, w4, w5, lf_I0 w6.2.1⟩ 0 rfl)
    refine run [116] 80 114 _ _ _ _ ?_
    exact wh (μa, 1, l2, l3, l4) ⟨hb, hub, hvb, h01, hX, Or.inr rfl, fun i q => absurd q (hY i), fun q => absurd q (show ¬ (1 : Int32) = 0 by decide)⟩
  -- the first part: unions
  have ph1 : ∀ (μa : za_M) (n1 : Int32) (l2 l3 l4 : Option za_V), mo_rb μ μa → mo_ub μa → mo_vb μa → mo_01 μa → (∀ i, ¬ lf_V 520 (mo_x μa) i) → (∀ i, ¬ lf_V 512 (mo_y μa) i) → ZZ 51 [some (za_r 30 0), some (za_i n1), l2, l3, l4] [] μa (0, 0) := by
    intro μa n1 l2 l3 l4 hb hub hvb h01 hX hY
    have wh := zn_wh (σ := za_M × Int32 × Option za_V × Option za_V)
      (P := fun t => ZZ 53 [some (za_r 30 0), some (za_i t.2.1), t.2.2.1, t.2.2.2, l4] [] t.1 (0, 0))
      (I := fun t => mo_rb μ t.1 ∧ mo_ub t.1 ∧ mo_vb t.1 ∧ mo_01 t.1 ∧ (∀ i, ¬ lf_V 512 (mo_y t.1) i) ∧ lf_H (un_F g) (gq_np g) 520 (mo_x t.1) t.2.1)
      (fun t => 2 * ct_n (mo_x t.1) 520 + t.2.1.toNatClampNeg)
      (fun t0 h ihw => by
        obtain ⟨w1, w2, w3, w4, w5, w6⟩ := h
        refine run [53, 61, 114] 80 53 _ _ _ _ ?_
        refine ⟨fun hq => ?_, fun hq => ?_⟩
        · exact ph2 _ _ _ _ _ w1 w2 w3 w4 (w6.2.2 hq) w5
        · have hq1 := zn_or01 w6.1 hq
          have loop := zn_for (σ := za_M × Int32 × Option za_V) (N := gq_np g)
            (P := fun k t => ∀ y : Int32, y = nI k → ZZ 61 [some (za_r 30 0), some (za_i t.2.1), some (za_i y), t.2.2, l4] [] t.1 (0, 0))
            (I := fun k t => mo_rb μ t.1 ∧ mo_ub t.1 ∧ mo_vb t.1 ∧ mo_01 t.1 ∧ (∀ i, ¬ lf_V 512 (mo_y t.1) i) ∧ lf_I (un_F g) (gq_np g) 520 (mo_x t0.1) k (mo_x t.1) t.2.1)
            (fun t h y hy => by
              obtain ⟨i1, i2, i3, i4, i5, i6⟩ := h
              have hM1 := mo_rbM hM i1
              refine run [53, 61] 80 61 _ _ _ _ ?_
              refine ⟨fun _ => ?_, fun q => absurd (by rw [hM1.2.1, hy]; exact Int32.le_refl _) q⟩
              exact ihw (t.1, t.2.1, some (za_i y), t.2.2) ⟨i1, i2, i3, i4, i5, lf_IH i6⟩ (lf_Im i6 hq1))
            (fun k t hk h ih y hy => by
              obtain ⟨j1, j2, j3, j4, j5, j6⟩ := h
              have hM2 := mo_rbM hM j1
              have at91 : ∀ (ν : za_M) (w : Int32), mo_rb μ ν → mo_ub ν → mo_vb ν → mo_01 ν → (∀ i, ¬ lf_V 512 (mo_y ν) i) → (w = 0 ∨ w = 1) → (∀ v', (v' = 0 ∨ v' = 1) → (v' = 1 ↔ (t.2.1 = 1 ∨ w = 1)) → lf_I (un_F g) (gq_np g) 520 (mo_x t0.1) (k + 1) (mo_x ν) v') → ZZ 91 [some (za_r 30 0), some (za_i t.2.1), some (za_i y), some (za_i w), l4] [] ν (0, 0) := by
                intro ν w k1 k2 k3 k4 k5 k6 k7
                refine run [61] 80 91 _ _ _ _ ?_
                refine ⟨fun z1 => ?_, fun z1 => ⟨fun z2 => ?_, fun z2 => ?_⟩⟩
                · exact ih (ν, 1, some (za_i w)) ⟨k1, k2, k3, k4, k5, k7 1 (Or.inr rfl) ⟨fun _ => Or.inl (zn_or01 j6.1 z1), fun _ => rfl⟩⟩ _ (zn_s hy)
                · exact ih (ν, 0, some (za_i w)) ⟨k1, k2, k3, k4, k5, k7 0 (Or.inl rfl) ⟨fun q => absurd q (by decide), fun q => q.elim (fun q => absurd (q.symm.trans z1) (by decide)) (fun q => absurd (q.symm.trans z2) (by decide))⟩⟩ _ (zn_s hy)
                · exact ih (ν, 1, some (za_i w)) ⟨k1, k2, k3, k4, k5, k7 1 (Or.inr rfl) ⟨fun _ => Or.inr (zn_or01 k6 z2), fun _ => rfl⟩⟩ _ (zn_s hy)
              refine run [61, 91] 80 61 _ _ _ _ ?_
              refine ⟨fun q => absurd q (zn_ge hy hM2.2.1 hk (by omega)), fun _ => ?_⟩
              refine ⟨d - 1, 0, 0, _, _, by omega, Nat.le_refl _, Nat.le_refl _, ct_M_allHave hg hM2 j4 hy hk (by omega), ?_, fun _ _ h => h.elim⟩
              rintro r μ2 ⟨⟨v, rfl, hv, hv1⟩, rfl⟩
              refine ⟨fun hq => ?_, fun hq => ?_⟩
              · have hno : ¬ mo_all g t.1 k 4 := fun z => by rw [hv1.mpr z] at hq; exact absurd hq (by decide)
                refine at91 _ 0 j1 j2 j3 j4 j5 (Or.inl rfl) (fun v' q1 q2 => ?_)
                have hF : ∀ i, ¬ un_F g k (lf_V 520 (mo_x t.1)) i := fun i q => hno ((mo_pa hg hk).mpr q.1)
                exact lf_Is (un_Fm g) (un_FN hg) j6 hk (fun i _ => ⟨Or.inl, fun q => q.elim id (fun q => absurd q (hF i))⟩) q1 ⟨fun q => (q2.mp q).elim Or.inl (fun q => absurd q (by decide)), fun q => q2.mpr (q.elim Or.inl (fun ⟨i, q, _⟩ => absurd q (hF i)))⟩
              · have hyes := hv1.mp (zn_or01 hv hq)
                refine ⟨d - 1, 0, 0, _, _, by omega, Nat.le_refl _, Nat.le_refl _, ct_M_growUnion hg hM2 j2 j4 hy hk (by omega), ?_, fun _ _ h => h.elim⟩
                rintro r ν ⟨⟨v2, rfl, hv2, hv3⟩, g0, g1, g2⟩
                obtain ⟨m1, m2, m3, m4⟩ := mo_gu hg hk j2 j4 hyes hv3 g0 g1
                have c1 : mo_rb μ ν := mo_rbt j1 g2 (fun b j q => ⟨by omega, q.2⟩)
                have c41 : ν.1 41 0 = t.1.1 41 0 := by rw [g2.1 41 0 (by decide)]
                have c3 : mo_vb ν := fun i y => by rw [c41]; exact j3 i y
                have c5 : ∀ i, ¬ lf_V 512 (mo_y ν) i := by rw [mo_yc c41]; exact j5
                refine ⟨fun hq2 => ?_, fun hq2 => ?_⟩
                · refine at91 ν 0 c1 m4 c3 m3 c5 (Or.inl rfl) (fun v' q1 q2 => lf_Is (un_Fm g) (un_FN hg) j6 hk m1 q1 (q2.trans ?_))
                  rw [← m2, hq2]
                · refine at91 ν 1 c1 m4 c3 m3 c5 (Or.inr rfl) (fun v' q1 q2 => lf_Is (un_Fm g) (un_FN hg) j6 hk m1 q1 (q2.trans ?_))
                  rw [← m2, zn_or01 hv2 hq2])
          exact loop 0 (t0.1, 0, t0.2.2.2) (Nat.zero_le _) ⟨w1, w2, w3, w4, w5, lf_I0 w6.2.1⟩ 0 rfl)
    refine run [53] 80 51 _ _ _ _ ?_
    exact wh (μa, 1, l2, l3) ⟨hb, hub, hvb, h01, hY, Or.inr rfl, fun i q => absurd q (hX i), fun q => absurd q (show ¬ (1 : Int32) = 0 by decide)⟩
  -- all is wiped
  have loop := zn_for (σ := za_M) (N := 64)
    (P := fun k μ1 => ∀ y : Int32, y = nI k → ZZ 15 [some (za_r 30 0), some (za_i y), none, none, none] [] μ1 (0, 0))
    (I := fun k μ1 => mo_rb μ μ1 ∧ ∀ i, i < k → μ1.1 40 0 i = 0 ∧ μ1.1 41 0 i = 0 ∧ μ1.1 39 0 (i / 8) = 0)
    (fun μ1 h y hy => by
      refine run [15, 51] 80 15 _ _ _ _ ?_
      refine ⟨fun _ => ?_, fun q => absurd (by rw [hy]; exact nI_le (Nat.le_refl 64) (by decide)) q⟩
      have z39 : ∀ s, s < 8 → μ1.1 39 0 s = 0 := fun s hs => by
        have := (h.2 (8 * s) (by omega)).2.2
        rw [show 8 * s / 8 = s by omega] at this
        exact this
      refine ph1 μ1 y none none none h.1 (fun i y hi q => ?_) (fun i y hi q => ?_) (fun s hs => Or.inl (z39 s hs)) (fun i q => ?_) (fun i q => ?_)
      · rw [(h.2 i hi).1, b_0] at q; cases q
      · rw [(h.2 i hi).2.1, b_0] at q; cases q
      · unfold lf_V mo_x at q
        by_cases c : i < 8
        · rw [if_pos c, z39 i c] at q
          exact absurd q.2 (by decide)
        · rw [if_neg c, (h.2 _ (by omega)).1, b_0] at q
          cases q.2
      · unfold lf_V mo_y at q
        rw [(h.2 _ (by omega)).2.1, b_0] at q
        cases q.2)
    (fun k μ1 hk h ih y hy => by
      have e8 : y / 8 = nI (k / 8) := by rw [hy]; exact zn_div8 k hk
      have hcy : y.toNatClampNeg = k := zn_c hy (by omega)
      have hc8 : (y / 8).toNatClampNeg = k / 8 := zn_c e8 (by omega)
      refine run [15] 80 15 _ _ _ _ ?_
      refine ⟨fun q => absurd q (zn_ge hy rfl hk (by decide)), fun _ => ?_⟩
      refine ⟨zn_i hy hk (by decide), zn_i hy hk (by decide), by decide, zn_i e8 (by omega) (by decide), Or.inl rfl, ?_⟩
      refine ih _ ⟨mo_rbt h.1 (S := fun b j => (b = 38 ∨ b = 39 ∨ b = 40 ∨ b = 41) ∧ j = 0) (zq_u (zq_u (zq_u zq_rf ⟨Or.inr (Or.inr (Or.inl rfl)), rfl⟩) ⟨Or.inr (Or.inr (Or.inr rfl)), rfl⟩) ⟨Or.inr (Or.inl rfl), rfl⟩) (fun b j q => q), fun i hi => ?_⟩ _ (zn_s hy)
      dsimp only
      rw [hcy, hc8, za_u_b (show (40 : Nat) ≠ 39 by decide), za_u_b (show (40 : Nat) ≠ 41 by decide), za_u_b (show (41 : Nat) ≠ 39 by decide)]
      by_cases e : i = k
      · subst e
        rw [za_u_same, za_u_same, za_u_same]
        exact ⟨rfl, rfl, rfl⟩
      · have h9 := h.2 i (by omega)
        rw [za_u_i e, za_u_i e, za_u_b (show (41 : Nat) ≠ 40 by decide)]
        refine ⟨h9.1, h9.2.1, ?_⟩
        by_cases e3 : i / 8 = k / 8
        · rw [e3, za_u_same]
        · rw [za_u_i e3, za_u_b (show (39 : Nat) ≠ 41 by decide), za_u_b (show (39 : Nat) ≠ 40 by decide)]
          exact h9.2.2)
  refine run [15] 80 0 _ _ _ _ ?_
  refine ⟨fun _ => ⟨Or.inr rfl, ?_⟩, fun q => absurd hk q⟩
  refine loop 0 _ (Nat.zero_le _) ⟨⟨zq_u zq_rf ⟨Or.inl rfl, rfl⟩, fun f a b c => ?_, ?_⟩, fun i hi => absurd hi (Nat.not_lt_zero i)⟩ 0 rfl
  · dsimp only
    rw [za_u_i a]
  · dsimp only
    rw [za_u_same]
