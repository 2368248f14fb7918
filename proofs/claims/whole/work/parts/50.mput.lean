/-! the reference: put -/
def mp_S (b j : Nat) : Prop := (b = 30 ∨ b = 35 ∨ b = 36 ∨ b = 37 ∨ b = 38) ∧ j = 0
def mp_b (μ μ1 : za_M) : Prop := zq_fr mp_S μ μ1 ∧ ∀ f, f ≠ 8 → f ≠ 9 → μ1.1 30 0 f = μ.1 30 0 f
theorem mp_rf {μ : za_M} : mp_b μ μ := ⟨zq_rf, fun _ _ _ => rfl⟩
theorem mp_tr {a b c : za_M} (h1 : mp_b a b) (h2 : mp_b b c) : mp_b a c := ⟨zq_tr h1.1 h2.1, fun f x y => (h2.2 f x y).trans (h1.2 f x y)⟩
theorem mp_S30 : ¬ mp_S 31 0 ∧ ¬ mp_S 32 0 ∧ ¬ mp_S 33 0 ∧ ¬ mp_S 34 0 := by unfold mp_S; decide
theorem mp_M {g : gq_G} {μ μ1 : za_M} (hM : gq_M g μ) (h : mp_b μ μ1) : gq_M g μ1 := gq_M_fr hM h.1 mp_S30.1 mp_S30.2.1 mp_S30.2.2.1 mp_S30.2.2.2 (h.2 1 (by decide) (by decide)) (h.2 4 (by decide) (by decide))
theorem mp_38 {μ μ1 : za_M} (h : zq_fr (fun b j => b = 38 ∧ j = 0) μ μ1) : mp_b μ μ1 := ⟨zq_up h (fun _ _ q => ⟨Or.inr (Or.inr (Or.inr (Or.inr q.1))), q.2⟩), fun f _ _ => by rw [h.1 30 0 (by decide)]⟩
theorem mp_u {μ μ1 : za_M} (h : mp_b μ μ1) {f : Nat} (hf : f = 8 ∨ f = 9) (x : Int32) : mp_b μ (za_u μ1.1 30 0 f x, μ1.2) := by
  refine ⟨zq_u h.1 ⟨Or.inl rfl, rfl⟩, fun f' a b => ?_⟩
  dsimp only
  rw [za_u_i (by omega)]
  exact h.2 f' a b
set_option maxHeartbeats 8000000 in
theorem ct_M_put {Γ : zk_G} {d p : Nat} {x i1 i2 i3 : Int32} {idx : Nat → Nat} {μ : za_M} {g : gq_G} (hg : gq_ok g) (hM : gq_M g μ) (hok : mt_ok μ) (hso : tb_so g (mt_K μ) (mt_T μ) (mt_C μ)) (h10 : ∀ s, s < 8 → mt_K μ s ≤ 10) (h8 : μ.1 30 0 8 = 0) (hx : x = nI p) (hi1 : i1 = nI (idx 1)) (hi2 : i2 = nI (idx 2)) (hi3 : i3 = nI (idx 3)) (hin : tb_in g p idx (mt_K μ)) (hp : p < gq_np g) (hd : 3 ≤ d) : zk_Ct zt Γ zm_M_put d 0 0 [za_r 30 0, za_i x, za_i i1, za_i i2, za_i i3] μ
    (fun r μ' => r = none ∧ mt_ok μ' ∧ tb_so g (mt_K μ') (mt_T μ') (mt_C μ') ∧ tb_le (mt_K μ) (mt_T μ) (mt_C μ) (mt_K μ') (mt_T μ') (mt_C μ') ∧ tb_tr g p idx (mt_K μ') (mt_T μ') (mt_C μ') ∧ (μ'.1 30 0 8 = 1 → gr_G g) ∧ (μ'.1 30 0 8 = 0 → ∀ s, s < 8 → mt_K μ' s ≤ 10) ∧ μ'.1 37 0 = μ.1 37 0 ∧ mp_b μ μ') (fun _ _ => False) := by
  have hp16 : p < 16 := Nat.lt_of_lt_of_le hp hg.2.1
  have hm := (hg.2.2.2.2.1 p hp).1
  have hs8 : gq_sy g p 0 < 8 := gq_sy8 hg hp (Nat.zero_le _)
  have e4 : (4 : Int32) * x = nI (4 * p) := by rw [hx]; exact pk_mul 4 p
  refine zs_M_put (Nat.le_of_ble_eq_true rfl) (by omega) (fun ZZ run => ?_)
  generalize hc : tb_c g p idx (mt_T μ) = c
  -- the head's graph is taken
  have h146 : ∀ (μ3 : za_M) (v : Int32), zq_fr (fun b j => b = 38 ∧ j = 0) μ μ3 → (∀ x y, x < 32 → (bt (μ3.1 38 0 x) y = true ↔ gr_P g p c x y)) → (v = 0 ∨ v = 1) → (v = 1 ↔ (mt_C μ ∨ gr_ci g p c)) → ZZ 146 [some (za_r 30 0), some (za_i x), some (za_i i1), some (za_i i2), some (za_i i3), some (za_i ((4 : Int32) * x))] [] (za_u μ3.1 30 0 9 v, μ3.2) (0, 0) := by
    intro μ3 v f3 hr hv hv1
    have b4 : mp_b μ (za_u μ3.1 30 0 9 v, μ3.2) := mp_u (mp_38 f3) (Or.inr rfl) v
    have hM4 := mp_M hM b4
    obtain ⟨o1, o2⟩ := gq_occ0 hM4 hx hp hp16
    refine run [] 60 146 _ _ _ _ ?_
    refine ⟨o1, ?_⟩
    refine ⟨d - 1, 0, 0, _, _, by omega, Nat.le_refl _, Nat.le_refl _, ct_M_headGraph hg hM4 hx hp (by omega), ?_, fun _ _ h => h.elim⟩
    rintro r μ5 ⟨rfl, rfl⟩
    have a38 : za_u μ3.1 30 0 9 v 38 0 = μ3.1 38 0 := za_u_b (by decide)
    have a35 : za_u μ3.1 30 0 9 v 35 0 = μ.1 35 0 := by rw [za_u_b (show (35 : Nat) ≠ 30 by decide), f3.1 35 0 (by decide)]
    have a37 : za_u μ3.1 30 0 9 v 37 0 = μ.1 37 0 := by rw [za_u_b (show (37 : Nat) ≠ 30 by decide), f3.1 37 0 (by decide)]
    have a36 : μ3.2 36 0 = μ.2 36 0 := f3.2 36 0 (by decide)
    obtain ⟨hG, hz⟩ := mo_hg_is hg hp hr
    generalize hw : mo_hg (μ3.1 38 0) (gq_dn g (gq_sy g p 0)) (gq_at g (gq_sy g p 0)) = w at hG hz
    have hK : mt_K (za_u μ3.1 30 0 9 v, μ3.2) = mt_K μ := by funext s; unfold mt_K; dsimp only; rw [a35]
    have hT : mt_T (za_u μ3.1 30 0 9 v, μ3.2) = mt_T μ := by funext s i; unfold mt_T; dsimp only; rw [a36]
    have hk10 := h10 _ hs8
    refine ⟨d - 1, 0, 0, _, _, by omega, Nat.le_refl _, Nat.le_refl _, ct_M_takeGraph (s := gq_sy g p 0) o2 hs8 (by rw [hK]; dsimp only; rw [a35]; exact (hok.1 _ hs8).1) (by rw [hK]; exact hk10) (by omega), ?_, fun _ _ h => h.elim⟩
    rintro r μ6 ⟨rfl, hor⟩
    dsimp only at hor
    rw [a38, hw, hK, a36] at hor
    rcases hor with ⟨rfl, j, hj1, hj2⟩ | ⟨rfl, hno⟩
    · have hC' : mt_C (za_u μ3.1 30 0 9 v, μ3.2) ↔ (mt_C μ ∨ gr_ci g p (tb_c g p idx (mt_T μ))) := by
        unfold mt_C
        dsimp only
        rw [za_u_same, hc]
        exact hv1
      have key := tb_tk (K' := mt_K (za_u μ3.1 30 0 9 v, μ3.2)) (T' := mt_T (za_u μ3.1 30 0 9 v, μ3.2)) hg hp hso hin (by rw [hc]; exact hG) hC' (by
        rw [hK, hT]
        refine ⟨fun _ _ _ => rfl, fun _ _ _ _ => rfl, Or.inl ⟨rfl, j, hj1, ?_⟩⟩
        unfold mt_T
        rw [hj2])
      refine ⟨rfl, rfl, Nat.le_refl _, Nat.le_refl _, rfl, ⟨?_, ?_, ?_⟩, key.1, key.2.1, key.2.2, ?_, ?_, a37, b4⟩
      · intro s hs
        rw [hK]
        dsimp only
        rw [a35, a36]
        exact hok.1 s hs
      · dsimp only
        rw [za_u_same]
        exact hv
      · dsimp only
        rw [za_u_i (show (8 : Nat) ≠ 9 by decide), f3.1 30 0 (by decide)]
        exact Or.inl h8
      · intro q
        dsimp only at q
        rw [za_u_i (show (8 : Nat) ≠ 9 by decide), f3.1 30 0 (by decide), h8] at q
        exact absurd q (by decide)
      · intro _
        rw [hK]
        exact h10
    · generalize hμ4 : ((za_u μ3.1 30 0 9 v, μ3.2) : za_M) = μ4 at hK hT b4
      have c35 : μ4.1 35 0 = μ.1 35 0 := by rw [← hμ4]; exact a35
      have c36 : μ4.2 36 0 = μ.2 36 0 := by rw [← hμ4]; exact a36
      have c37 : μ4.1 37 0 = μ.1 37 0 := by rw [← hμ4]; exact a37
      have c9 : μ4.1 30 0 9 = v := by rw [← hμ4]; dsimp only; rw [za_u_same]
      have n35 : ∀ s, (mt_new μ4 (gq_sy g p 0) w).1 35 0 s = if s = gq_sy g p 0 then nI (mt_K μ (gq_sy g p 0) + 1) else μ.1 35 0 s := fun s => by
        unfold mt_new
        dsimp only
        rw [za_u_b (show (35 : Nat) ≠ 30 by decide), hK]
        by_cases e : s = gq_sy g p 0
        · rw [if_pos e, e, za_u_same]
        · rw [if_neg e, za_u_i e, c35]
      have n36 : ∀ i, (mt_new μ4 (gq_sy g p 0) w).2 36 0 i = if i = 11 * gq_sy g p 0 + mt_K μ (gq_sy g p 0) then w else μ.2 36 0 i := fun i => by
        unfold mt_new
        dsimp only
        rw [hK]
        by_cases e : i = 11 * gq_sy g p 0 + mt_K μ (gq_sy g p 0)
        · rw [if_pos e, e, za_u_same]
        · rw [if_neg e, za_u_i e, c36]
      have n9 : (mt_new μ4 (gq_sy g p 0) w).1 30 0 9 = v := by
        unfold mt_new
        dsimp only
        rw [za_u_i (show (9 : Nat) ≠ 8 by decide), za_u_b (show (30 : Nat) ≠ 35 by decide), c9]
      have n8 : (mt_new μ4 (gq_sy g p 0) w).1 30 0 8 = if mt_K μ (gq_sy g p 0) = 10 then 1 else 0 := by
        unfold mt_new
        dsimp only
        rw [za_u_same, hK]
      have nK : ∀ s, s < 8 → mt_K (mt_new μ4 (gq_sy g p 0) w) s = if s = gq_sy g p 0 then mt_K μ (gq_sy g p 0) + 1 else mt_K μ s := fun s hs => by
        unfold mt_K
        rw [n35]
        by_cases e : s = gq_sy g p 0
        · rw [if_pos e, if_pos e, zn_cl (by omega)]; rfl
        · rw [if_neg e, if_neg e]
      have nT : ∀ s i, s < 8 → i < mt_K μ s → mt_T (mt_new μ4 (gq_sy g p 0) w) s i = mt_T μ s i := fun s i hs hi => by
        have := h10 s hs
        unfold mt_T
        rw [n36, if_neg]
        intro e
        have e2 : s = gq_sy g p 0 := by omega
        subst e2
        omega
      have hC' : mt_C (mt_new μ4 (gq_sy g p 0) w) ↔ (mt_C μ ∨ gr_ci g p (tb_c g p idx (mt_T μ))) := by
        unfold mt_C at hv1 ⊢
        rw [n9, hc]
        exact hv1
      have key := tb_tk (K' := mt_K (mt_new μ4 (gq_sy g p 0) w)) (T' := mt_T (mt_new μ4 (gq_sy g p 0) w)) hg hp hso hin (by rw [hc]; exact hG) hC' (by
        refine ⟨fun s hs e => by rw [nK s hs, if_neg e], nT, Or.inr ⟨by rw [nK _ hs8, if_pos rfl], ?_, fun j hj e => ?_⟩⟩
        · unfold mt_T
          rw [n36, if_pos rfl]
        · unfold mt_T at e
          exact hno j hj ((mo_g_inj ((hok.1 _ hs8).2.2 j hj) hz).mp e))
      refine ⟨rfl, rfl, Nat.le_refl _, Nat.le_refl _, rfl, ⟨?_, ?_, ?_⟩, key.1, key.2.1, key.2.2, ?_, ?_, ?_, ?_⟩
      · intro s hs
        rw [nK s hs, n35]
        by_cases e : s = gq_sy g p 0
        · rw [if_pos e, if_pos e]
          refine ⟨rfl, by omega, fun i hi => ?_⟩
          rw [n36]
          split
          · exact hz
          · rename_i e2
            rw [e] at e2 ⊢
            exact (hok.1 _ hs8).2.2 i (by omega)
        · rw [if_neg e, if_neg e]
          refine ⟨(hok.1 s hs).1, (hok.1 s hs).2.1, fun i hi => ?_⟩
          rw [n36]
          split
          · exact hz
          · exact (hok.1 s hs).2.2 i hi
      · rw [n9]
        exact hv
      · rw [n8]
        split
        · exact Or.inr rfl
        · exact Or.inl rfl
      · intro q
        rw [n8] at q
        by_cases e : mt_K μ (gq_sy g p 0) = 10
        · refine tb_11 key.1 hs8 ?_
          rw [nK _ hs8, if_pos rfl]
          omega
        · rw [if_neg e] at q
          exact absurd q (by decide)
      · intro q s hs
        rw [n8] at q
        rw [nK s hs]
        by_cases e : mt_K μ (gq_sy g p 0) = 10
        · rw [if_pos e] at q
          exact absurd q (by decide)
        · have := h10 s hs
          split <;> omega
      · unfold mt_new
        dsimp only
        rw [za_u_b (show (37 : Nat) ≠ 30 by decide), za_u_b (show (37 : Nat) ≠ 35 by decide), c37]
      · refine ⟨zq_uL (zq_u (zq_u b4.1 ⟨by decide, rfl⟩) ⟨by decide, rfl⟩) ⟨by decide, rfl⟩, fun f a b => ?_⟩
        unfold mt_new
        dsimp only
        rw [za_u_i a, za_u_b (show (30 : Nat) ≠ 35 by decide)]
        exact b4.2 f a b
  have h119 : ∀ (μ1 : za_M), zq_fr (fun b j => b = 38 ∧ j = 0) μ μ1 → (∀ x y, x < 32 → (bt (μ1.1 38 0 x) y = true ↔ gr_En g p c 4 x y)) → ZZ 119 [some (za_r 30 0), some (za_i x), some (za_i i1), some (za_i i2), some (za_i i3), some (za_i ((4 : Int32) * x))] [] μ1 (0, 0) := by
    intro μ1 f1 hr
    have hr : ∀ x y, x < 32 → (bt (μ1.1 38 0 x) y = true ↔ gr_E g p c x y) := fun x y hx => (hr x y hx).trans (gr_En4 hg hp c x y)
    refine run [146] 60 119 _ _ _ _ ?_
    refine ⟨d - 1, 0, 0, _, _, by omega, Nat.le_refl _, Nat.le_refl _, ct_M_follow (by omega), ?_, fun _ _ h => h.elim⟩
    rintro r μ3 ⟨rfl, w1, w2⟩
    have f3 := zq_tr f1 w2
    have hP : ∀ x y, x < 32 → (bt (μ3.1 38 0 x) y = true ↔ gr_P g p c x y) := fun x y hx => by
      rw [w1 x hx]
      exact (mo_f_is hr 32 (Nat.le_refl _) x y hx).trans (pq_all (fun v a b h1 _ => h1.2.1) x y).symm
    have hci : mo_c (μ3.1 38 0) 32 ↔ gr_ci g p c := by
      refine Iff.trans ?_ (mo_c_is (r := μ1.1 38 0) (fun a b h => ⟨h.1, h.2.1⟩) hr)
      exact ⟨fun ⟨i, z1, z2⟩ => ⟨i, z1, by rw [← w1 i z1]; exact z2⟩, fun ⟨i, z1, z2⟩ => ⟨i, z1, by rw [w1 i z1]; exact z2⟩⟩
    have e9 : μ3.1 30 0 9 = μ.1 30 0 9 := by rw [f3.1 30 0 (by decide)]
    have hC9 : mt_C μ ↔ μ3.1 30 0 9 = 1 := by rw [e9]; exact Iff.rfl
    refine ⟨fun hq => ⟨Or.inr rfl, ?_⟩, fun hq => ?_⟩
    · exact h146 μ3 1 f3 hP (Or.inr rfl) ⟨fun _ => Or.inl (hC9.mpr (zn_or01 (by rw [e9]; exact hok.2.1) hq)), fun _ => rfl⟩
    · refine ⟨d - 1, 0, 0, _, _, by omega, Nat.le_refl _, Nat.le_refl _, ct_M_hasCircle (by omega), ?_, fun _ _ h => h.elim⟩
      rintro r μ8 ⟨⟨v2, rfl, hv2, hv3⟩, rfl⟩
      refine ⟨fun hq2 => ⟨Or.inl rfl, ?_⟩, fun hq2 => ⟨Or.inr rfl, ?_⟩⟩
      · refine h146 μ8 0 f3 hP (Or.inl rfl) ⟨fun q => absurd q (by decide), fun q => q.elim (fun q => absurd ((hC9.mp q).symm.trans hq) (by decide)) (fun q => ?_)⟩
        have := hv3.mpr (hci.mpr q)
        rw [hq2] at this
        exact absurd this (by decide)
      · exact h146 μ8 1 f3 hP (Or.inr rfl) ⟨fun _ => Or.inr (hci.mp (hv3.mp (zn_or01 hv2 hq2))), fun _ => rfl⟩
  have h82 : ∀ (μ1 : za_M), zq_fr (fun b j => b = 38 ∧ j = 0) μ μ1 → (∀ x y, x < 32 → (bt (μ1.1 38 0 x) y = true ↔ gr_En g p c 3 x y)) → ZZ 82 [some (za_r 30 0), some (za_i x), some (za_i i1), some (za_i i2), some (za_i i3), some (za_i ((4 : Int32) * x))] [] μ1 (0, 0) := by
    intro μ1 f1 hr
    have hM1 := mp_M hM (mp_38 f1)
    obtain ⟨o1, o2⟩ := gq_occ hM1 hx (show (3 : Int32) = nI 3 from rfl) hp hp16 (by decide)
    refine run [119] 60 82 _ _ _ _ ?_
    by_cases hle : 3 ≤ gq_m g p
    · rw [if_pos hle] at o2
      have hsy := gq_sy8 hg hp hle
      have hix := hin 3 (by decide) hle
      have hk := h10 _ hsy
      have e1 : (11 : Int32) * μ1.1 33 0 (4 * x + 3).toNatClampNeg + i3 = nI (11 * gq_sy g p 3 + idx 3) := by rw [o2, hi3, zn_11, nI_add]
      refine ⟨o1, fun q => absurd q (by rw [o2]; exact gq_neg _ (by omega)), fun _ => ⟨o1, zn_i e1 (by omega) (by decide), ?_⟩⟩
      refine ⟨d - 1, 0, 0, _, _, by omega, Nat.le_refl _, Nat.le_refl _, ct_M_addGraph (o := 3) rfl (by decide) (by omega), ?_, fun _ _ h => h.elim⟩
      rintro r μ2 ⟨rfl, a1, a2⟩
      refine h119 μ2 (zq_tr f1 a2) (gr_Ens (by decide) (by decide) hle ?_ hr a1)
      rw [zn_c e1 (by omega), ← hc, f1.2 36 0 (by decide)]
      rfl
    · rw [if_neg hle] at o2
      exact ⟨o1, fun _ => h119 μ1 f1 (gr_Enk hle hr), fun q => absurd (by rw [o2]; decide) q⟩
  have h46 : ∀ (μ1 : za_M), zq_fr (fun b j => b = 38 ∧ j = 0) μ μ1 → (∀ x y, x < 32 → (bt (μ1.1 38 0 x) y = true ↔ gr_En g p c 2 x y)) → ZZ 46 [some (za_r 30 0), some (za_i x), some (za_i i1), some (za_i i2), some (za_i i3), some (za_i ((4 : Int32) * x))] [] μ1 (0, 0) := by
    intro μ1 f1 hr
    have hM1 := mp_M hM (mp_38 f1)
    obtain ⟨o1, o2⟩ := gq_occ hM1 hx (show (2 : Int32) = nI 2 from rfl) hp hp16 (by decide)
    refine run [82] 60 46 _ _ _ _ ?_
    by_cases hle : 2 ≤ gq_m g p
    · rw [if_pos hle] at o2
      have hsy := gq_sy8 hg hp hle
      have hix := hin 2 (by decide) hle
      have hk := h10 _ hsy
      have e1 : (11 : Int32) * μ1.1 33 0 (4 * x + 2).toNatClampNeg + i2 = nI (11 * gq_sy g p 2 + idx 2) := by rw [o2, hi2, zn_11, nI_add]
      refine ⟨o1, fun q => absurd q (by rw [o2]; exact gq_neg _ (by omega)), fun _ => ⟨o1, zn_i e1 (by omega) (by decide), ?_⟩⟩
      refine ⟨d - 1, 0, 0, _, _, by omega, Nat.le_refl _, Nat.le_refl _, ct_M_addGraph (o := 2) rfl (by decide) (by omega), ?_, fun _ _ h => h.elim⟩
      rintro r μ2 ⟨rfl, a1, a2⟩
      refine h82 μ2 (zq_tr f1 a2) (gr_Ens (by decide) (by decide) hle ?_ hr a1)
      rw [zn_c e1 (by omega), ← hc, f1.2 36 0 (by decide)]
      rfl
    · rw [if_neg hle] at o2
      exact ⟨o1, fun _ => h82 μ1 f1 (gr_Enk hle hr), fun q => absurd (by rw [o2]; decide) q⟩
  have h10a : ∀ (μ1 : za_M), zq_fr (fun b j => b = 38 ∧ j = 0) μ μ1 → (∀ x y, x < 32 → (bt (μ1.1 38 0 x) y = true ↔ gr_En g p c 1 x y)) → ZZ 10 [some (za_r 30 0), some (za_i x), some (za_i i1), some (za_i i2), some (za_i i3), some (za_i ((4 : Int32) * x))] [] μ1 (0, 0) := by
    intro μ1 f1 hr
    have hM1 := mp_M hM (mp_38 f1)
    obtain ⟨o1, o2⟩ := gq_occ hM1 hx (show (1 : Int32) = nI 1 from rfl) hp hp16 (by decide)
    refine run [46] 60 10 _ _ _ _ ?_
    by_cases hle : 1 ≤ gq_m g p
    · rw [if_pos hle] at o2
      have hsy := gq_sy8 hg hp hle
      have hix := hin 1 (by decide) hle
      have hk := h10 _ hsy
      have e1 : (11 : Int32) * μ1.1 33 0 (4 * x + 1).toNatClampNeg + i1 = nI (11 * gq_sy g p 1 + idx 1) := by rw [o2, hi1, zn_11, nI_add]
      refine ⟨o1, fun q => absurd q (by rw [o2]; exact gq_neg _ (by omega)), fun _ => ⟨o1, zn_i e1 (by omega) (by decide), ?_⟩⟩
      refine ⟨d - 1, 0, 0, _, _, by omega, Nat.le_refl _, Nat.le_refl _, ct_M_addGraph (o := 1) rfl (by decide) (by omega), ?_, fun _ _ h => h.elim⟩
      rintro r μ2 ⟨rfl, a1, a2⟩
      refine h46 μ2 (zq_tr f1 a2) (gr_Ens (by decide) (by decide) hle ?_ hr a1)
      rw [zn_c e1 (by omega), ← hc, f1.2 36 0 (by decide)]
      rfl
    · rw [if_neg hle] at o2
      exact ⟨o1, fun _ => h46 μ1 f1 (gr_Enk hle hr), fun q => absurd (by rw [o2]; decide) q⟩
  refine run [10] 60 0 _ _ _ _ ?_
  refine ⟨d - 1, 0, 0, _, _, by omega, Nat.le_refl _, Nat.le_refl _, ct_M_takeDepends hx (by omega) hp16, ?_, fun _ _ h => h.elim⟩
  rintro r μ1 ⟨rfl, t1, t2⟩
  refine h10a μ1 t2 (fun x y hx => ?_)
  rw [t1 x hx, hM.2.2.2.2 p x hp16 hx, if_pos hp]
  unfold gr_En
  refine ⟨fun q => ⟨hx, Classical.byContradiction fun z => ?_, Or.inl q⟩, fun q => q.2.2.elim id (fun q => by omega)⟩
  rw [b_big (by omega)] at q
  cases q
