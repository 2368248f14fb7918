/-! the reference: answers -/
theorem gm_g {g : gq_G} {μ μ1 : za_M} (h : gm g μ) (hfin : mt_fin g μ1) (h7 : μ1.1 30 0 7 = 1) (hb : mf_b μ μ1) : gm g μ1 ∧ zq_fr (fun b _ => 30 ≤ b) μ μ1 := by
  obtain ⟨hf, h30⟩ := hb
  refine ⟨⟨gq_M_fr h.1 hf (by unfold mp_S; decide) (by unfold mp_S; decide) (by unfold mp_S; decide) (by unfold mp_S; decide) (h30 1 (by decide) (by decide) (by decide)) (h30 4 (by decide) (by decide) (by decide)), Or.inr ⟨h7, hfin⟩, ?_⟩, zq_up hf (fun b j q => by unfold mp_S at q; omega)⟩
  rw [h30 14 (by decide) (by decide) (by decide)]
  exact h.2.2.imp id (fun q => ⟨q.1, mo_finc q.2 (h30 18 (by decide) (by decide) (by decide)) (h30 19 (by decide) (by decide) (by decide)) (hf.1 39 0 (by unfold mp_S; decide)) (hf.1 40 0 (by unfold mp_S; decide)) (hf.1 41 0 (by unfold mp_S; decide))⟩)
theorem gm_r {g : gq_G} {μ μ1 : za_M} (h : gm g μ) (hfin : mo_fin g μ1) (hb : mo_rb μ μ1) : gm g μ1 ∧ zq_fr (fun b _ => 30 ≤ b) μ μ1 := by
  refine ⟨⟨mo_rbM h.1 hb, ?_, Or.inr ⟨hb.2.2, hfin⟩⟩, zq_up hb.1 (fun b j q => by unfold mo_rS at q; omega)⟩
  obtain ⟨hf, h30, _⟩ := hb
  rw [h30 7 (by decide) (by decide) (by decide)]
  exact h.2.1.imp id (fun q => ⟨q.1, mt_finc q.2 (h30 8 (by decide) (by decide) (by decide)) (h30 9 (by decide) (by decide) (by decide)) (hf.1 35 0 (by unfold mo_rS; decide)) (hf.2 36 0 (by unfold mo_rS; decide))⟩)
theorem gm_p {g : gq_G} {μ μ1 : za_M} (h : gm g μ) (h30 : ∀ i, i ≠ 22 → μ1.1 30 0 i = μ.1 30 0 i) (hf : zq_fr pf_S μ μ1) : gm g μ1 ∧ zq_fr (fun b _ => 30 ≤ b) μ μ1 := by
  refine ⟨⟨gq_M_fr h.1 hf (by unfold pf_S; decide) (by unfold pf_S; decide) (by unfold pf_S; decide) (by unfold pf_S; decide) (h30 1 (by decide)) (h30 4 (by decide)), ?_, ?_⟩, zq_up hf (fun b j q => by unfold pf_S at q; omega)⟩
  · rw [h30 7 (by decide)]
    exact h.2.1.imp id (fun q => ⟨q.1, mt_finc q.2 (h30 8 (by decide)) (h30 9 (by decide)) (hf.1 35 0 (by unfold pf_S; decide)) (hf.2 36 0 (by unfold pf_S; decide))⟩)
  · rw [h30 14 (by decide)]
    exact h.2.2.imp id (fun q => ⟨q.1, mo_finc q.2 (h30 18 (by decide)) (h30 19 (by decide)) (hf.1 39 0 (by unfold pf_S; decide)) (hf.1 40 0 (by unfold pf_S; decide)) (hf.1 41 0 (by unfold pf_S; decide))⟩)
set_option maxHeartbeats 4000000 in
theorem ct_M_graphs {Γ : zk_G} {d : Nat} {s : Int32} {μ : za_M} {g : gq_G} (hg : gq_ok g) (h : gm g μ) (hd : 6 ≤ d) : zk_Ct zt Γ zm_M_graphs d 0 0 [za_r 30 0, za_i s] μ
    (fun r μ' => (∃ v : Int32, r = some (za_i v) ∧ ((∃ k c, k < gq_ns g ∧ s = nI k ∧ ¬ gr_G g ∧ gs_cnt g k c ∧ v = nI c ∧ μ'.1 30 0 0 = 0) ∨ (¬ (∃ k, k < gq_ns g ∧ s = nI k) ∧ μ'.1 30 0 0 = 1) ∨ ((∃ k, k < gq_ns g ∧ s = nI k) ∧ gr_G g ∧ μ'.1 30 0 0 = 2))) ∧ gm g μ' ∧ zq_fr (fun b _ => 30 ≤ b) μ μ') (fun _ _ => False) := by
  have hns : gq_ns g ≤ 8 := hg.1
  refine zs_M_graphs (Nat.le_of_ble_eq_true rfl) (by omega) (fun ZZ run => ?_)
  have c23 : ∀ k, k < gq_ns g → s = nI k → ZZ 23 [some (za_r 30 0), some (za_i s)] [] (gm_t μ 0) (0, 0) := by
    intro k hk hs
    have h0 := gm_tg (t := 0) h
    have hck : s.toNatClampNeg = k := zn_c hs (by omega)
    refine run [] 60 23 _ _ _ _ ?_
    refine ⟨d - 1, 0, 0, _, _, by omega, Nat.le_refl _, Nat.le_refl _, ct_M_findGraphs hg h0.1 h0.2.1 (by omega), ?_, fun _ _ h => h.elim⟩
    rintro r μ1 ⟨rfl, hfin, h7, hb⟩
    obtain ⟨h1, hf1⟩ := gm_g h0 hfin h7 hb
    have h01 := hfin.1.2.2
    refine ⟨d - 1, 0, 0, _, _, by omega, Nat.le_refl _, Nat.le_refl _, ct_M_refuse (by omega), ?_, fun _ _ h => h.elim⟩
    rintro r μ2 ⟨rfl, hμ2⟩
    have hμ2 : μ2 = gm_t μ1 (mo_t 0 (μ1.1 30 0 8)) := hμ2
    subst hμ2
    have hfr : zq_fr (fun b _ => 30 ≤ b) μ (gm_t μ1 (mo_t 0 (μ1.1 30 0 8))) := zq_tr (zq_tr (gm_tf (t := 0)) hf1) gm_tf
    rcases h01 with e | e
    · rw [e, if_pos (by decide)]
      refine ⟨fun _ => ⟨zn_i hs (by omega) (by decide), ?_⟩, fun q => absurd rfl q⟩
      have hcl := tb_cl hg hfin.2.1 (hfin.2.2.2 e).2
      have hK := (hfin.2.2.2 e).1
      refine ⟨rfl, Or.inl rfl, Nat.le_refl _, Nat.le_refl _, ⟨_, rfl, Or.inl ⟨k, mt_K μ1 k, hk, hs, tb_no hcl.1 hK, ⟨_, _, _, hfin.2.1, hcl.1, rfl, hK k (by omega)⟩, ?_, gm_t0⟩⟩, gm_tg h1, by rw [e] at hfr; exact hfr⟩
      rw [hck, gm_tb (by decide)]
      exact (hfin.1.1 k (by omega)).1
    · rw [e, if_neg (by decide)]
      exact ⟨fun q => absurd q (by decide), fun _ => ⟨rfl, Or.inl rfl, Nat.le_refl _, Nat.le_refl _, ⟨_, rfl, Or.inr (Or.inr ⟨⟨k, hk, hs⟩, hfin.2.2.1 e, gm_t0⟩)⟩, gm_tg h1, by rw [e] at hfr; exact hfr⟩⟩
  have c14 : ∀ x : Int32, (x = 0 ∨ x = 1) → (x = 0 ↔ ∃ k, k < gq_ns g ∧ s = nI k) → ZZ 14 [some (za_r 30 0), some (za_i s)] [za_i x, za_r 30 0] μ (0, 0) := by
    intro x hx hxS
    refine run [23] 60 14 _ _ _ _ ?_
    refine ⟨d - 1, 0, 0, _, _, by omega, Nat.le_refl _, Nat.le_refl _, ct_M_refuse (by omega), ?_, fun _ _ h => h.elim⟩
    rintro r μ1 ⟨rfl, hμ1⟩
    have hμ1 : μ1 = gm_t μ (mo_t x 0) := hμ1
    subst hμ1
    rcases hx with rfl | rfl
    · rw [show mo_t 0 0 = 0 by decide, if_pos rfl]
      obtain ⟨k, hk, hs⟩ := hxS.mp rfl
      exact ⟨fun _ => c23 k hk hs, fun q => absurd rfl q⟩
    · rw [show mo_t 1 0 = 1 by decide, if_neg (by decide)]
      exact ⟨fun q => absurd q (by decide), fun _ => ⟨rfl, Or.inl rfl, Nat.le_refl _, Nat.le_refl _, ⟨0, rfl, Or.inr (Or.inl ⟨fun z => absurd (hxS.mpr z) (by decide), gm_t0⟩)⟩, gm_tg h, gm_tf⟩⟩
  refine run [14] 60 0 _ _ _ _ ?_
  refine ⟨d - 1, 0, 0, _, _, by omega, Nat.le_refl _, Nat.le_refl _, ct_M_isSymbol' h.1.1 hns (by omega), ?_, fun _ _ h => h.elim⟩
  rintro r μ1 ⟨⟨v, rfl, hv, hv1⟩, hμ1⟩
  have hμ1 := hμ1.symm
  subst hμ1
  exact ⟨fun q => c14 0 (Or.inl rfl) ⟨fun _ => hv1.mp (zn_or01 hv q), fun _ => rfl⟩, fun q => c14 1 (Or.inr rfl) ⟨fun z => absurd z (by decide), fun z => absurd (q.symm.trans (hv1.mpr z)) (by decide)⟩⟩
theorem ct_M_circular {Γ : zk_G} {d : Nat} {μ : za_M} {g : gq_G} (hg : gq_ok g) (h : gm g μ) (hd : 6 ≤ d) : zk_Ct zt Γ zm_M_circular d 0 0 [za_r 30 0] μ
    (fun r μ' => (∃ v : Int32, r = some (za_i v) ∧ ((¬ gr_G g ∧ (v = 0 ∨ v = 1) ∧ (v = 1 ↔ gr_C g) ∧ μ'.1 30 0 0 = 0) ∨ (gr_G g ∧ μ'.1 30 0 0 = 1))) ∧ gm g μ' ∧ zq_fr (fun b _ => 30 ≤ b) μ μ') (fun _ _ => False) := by
  refine zs_M_circular (Nat.le_of_ble_eq_true rfl) (by omega) (fun ZZ run => ?_)
  refine run [] 60 0 _ _ _ _ ?_
  refine ⟨d - 1, 0, 0, _, _, by omega, Nat.le_refl _, Nat.le_refl _, ct_M_findGraphs hg h.1 h.2.1 (by omega), ?_, fun _ _ h => h.elim⟩
  rintro r μ1 ⟨rfl, hfin, h7, hb⟩
  obtain ⟨h1, hf1⟩ := gm_g h hfin h7 hb
  refine ⟨d - 1, 0, 0, _, _, by omega, Nat.le_refl _, Nat.le_refl _, ct_M_refuse (by omega), ?_, fun _ _ h => h.elim⟩
  rintro r μ2 ⟨rfl, hμ2⟩
  have hμ2 : μ2 = gm_t μ1 (mo_t (μ1.1 30 0 8) 0) := hμ2
  subst hμ2
  have hfr : zq_fr (fun b _ => 30 ≤ b) μ (gm_t μ1 (mo_t (μ1.1 30 0 8) 0)) := zq_tr hf1 gm_tf
  rcases hfin.1.2.2 with e | e
  · rw [e, show mo_t 0 0 = 0 by decide] at hfr
    rw [e, show mo_t 0 0 = 0 by decide, if_pos rfl]
    have hcl := tb_cl hg hfin.2.1 (hfin.2.2.2 e).2
    have hno := tb_no hcl.1 (hfin.2.2.2 e).1
    have e9 : (gm_t μ1 0).1 30 0 9 = μ1.1 30 0 9 := gm_ti (by decide)
    refine ⟨fun q => absurd rfl q, fun _ => ⟨fun q => ?_, fun q => ?_⟩⟩
    · have q : (gm_t μ1 0).1 30 0 9 = 0 := q
      rw [e9] at q
      exact ⟨rfl, Or.inr ⟨rfl, Or.inl rfl⟩, Nat.le_refl _, Nat.le_refl _, ⟨0, rfl, Or.inl ⟨hno, Or.inl rfl, ⟨fun z => absurd z (by decide), fun z => absurd (q.symm.trans (hcl.2.mpr z)) (by decide)⟩, gm_t0⟩⟩, gm_tg h1, hfr⟩
    · have q : ¬ (gm_t μ1 0).1 30 0 9 = 0 := q
      rw [e9] at q
      exact ⟨rfl, Or.inr ⟨rfl, Or.inr rfl⟩, Nat.le_refl _, Nat.le_refl _, ⟨1, rfl, Or.inl ⟨hno, Or.inr rfl, ⟨fun _ => hcl.2.mp (zn_or01 hfin.1.2.1 q), fun _ => rfl⟩, gm_t0⟩⟩, gm_tg h1, hfr⟩
  · rw [e, show mo_t 1 0 = 1 by decide] at hfr
    rw [e, show mo_t 1 0 = 1 by decide, if_neg (by decide)]
    exact ⟨fun _ => ⟨rfl, Or.inr ⟨rfl, Or.inl rfl⟩, Nat.le_refl _, Nat.le_refl _, ⟨0, rfl, Or.inr ⟨hfin.2.2.1 e, gm_t0⟩⟩, gm_tg h1, hfr⟩, fun q => absurd q (by decide)⟩
theorem ct_M_strong {Γ : zk_G} {d : Nat} {μ : za_M} {g : gq_G} (hg : gq_ok g) (h : gm g μ) (hd : 4 ≤ d) : zk_Ct zt Γ zm_M_strong d 0 0 [za_r 30 0] μ
    (fun r μ' => (∃ v : Int32, r = some (za_i v) ∧ (v = 0 ∨ v = 1) ∧ (v = 1 ↔ ¬ ∃ p, p < gq_np g ∧ un_c g p (fun _ => un_no))) ∧ gm g μ' ∧ zq_fr (fun b _ => 30 ≤ b) μ μ') (fun _ _ => False) := by
  refine zs_M_strong (Nat.le_of_ble_eq_true rfl) (by omega) (fun ZZ run => ?_)
  refine run [] 60 0 _ _ _ _ ?_
  have h0 : gm g (gm_t μ 0) := gm_tg h
  refine ⟨d - 1, 0, 0, _, _, by omega, Nat.le_refl _, Nat.le_refl _, ct_M_relate (μ := gm_t μ 0) hg h0.1 h0.2.2 (by omega), ?_, fun _ _ h => h.elim⟩
  rintro r μ1 ⟨rfl, hfin, hb⟩
  obtain ⟨h1, hf1⟩ := gm_r h0 hfin hb
  obtain ⟨c1, c2⟩ := hfin.2.2.2.2.1
  exact ⟨rfl, Or.inr ⟨rfl, c1⟩, Nat.le_refl _, Nat.le_refl _, ⟨_, rfl, c1, c2⟩, h1, zq_tr (gm_tf (t := 0)) hf1⟩
theorem ct_M_doubly {Γ : zk_G} {d : Nat} {μ : za_M} {g : gq_G} (hg : gq_ok g) (h : gm g μ) (hd : 4 ≤ d) : zk_Ct zt Γ zm_M_doubly d 0 0 [za_r 30 0] μ
    (fun r μ' => (∃ v : Int32, r = some (za_i v) ∧ (v = 0 ∨ v = 1) ∧ (v = 1 ↔ ¬ ∃ p, p < gq_np g ∧ un_c g p (un_Q (un_Y g)))) ∧ gm g μ' ∧ zq_fr (fun b _ => 30 ≤ b) μ μ') (fun _ _ => False) := by
  refine zs_M_doubly (Nat.le_of_ble_eq_true rfl) (by omega) (fun ZZ run => ?_)
  refine run [] 60 0 _ _ _ _ ?_
  have h0 : gm g (gm_t μ 0) := gm_tg h
  refine ⟨d - 1, 0, 0, _, _, by omega, Nat.le_refl _, Nat.le_refl _, ct_M_relate (μ := gm_t μ 0) hg h0.1 h0.2.2 (by omega), ?_, fun _ _ h => h.elim⟩
  rintro r μ1 ⟨rfl, hfin, hb⟩
  obtain ⟨h1, hf1⟩ := gm_r h0 hfin hb
  obtain ⟨c1, c2⟩ := hfin.2.2.2.2.2
  exact ⟨rfl, Or.inr ⟨rfl, c1⟩, Nat.le_refl _, Nat.le_refl _, ⟨_, rfl, c1, c2⟩, h1, zq_tr (gm_tf (t := 0)) hf1⟩
set_option maxHeartbeats 4000000 in
theorem ct_M_isAttribute {Γ : zk_G} {d : Nat} {s a : Int32} {μ : za_M} {g : gq_G} (hg : gq_ok g) (hM : gq_M g μ) (hd : 3 ≤ d) : zk_Ct zt Γ zm_M_isAttribute d 0 0 [za_r 30 0, za_i s, za_i a] μ (fun r μ' => (∃ v : Int32, r = some (za_i v) ∧ (v = 0 ∨ v = 1) ∧ (v = 1 ↔ ∃ k j, gs_at g s a k j)) ∧ μ' = μ) (fun _ _ => False) := by
  have hns : gq_ns g ≤ 8 := hg.1
  refine zs_M_isAttribute (Nat.le_of_ble_eq_true rfl) (by omega) (fun ZZ run => ?_)
  refine run [] 60 0 _ _ _ _ ?_
  refine ⟨d - 1, 0, 0, _, _, by omega, Nat.le_refl _, Nat.le_refl _, ct_M_isSymbol' hM.1 hns (by omega), ?_, fun _ _ h => h.elim⟩
  rintro r μ1 ⟨⟨v, rfl, hv, hv1⟩, hμ1⟩
  have hμ1 := hμ1.symm
  subst hμ1
  refine ⟨fun q => ⟨rfl, Or.inr ⟨rfl, Or.inl rfl⟩, Nat.le_refl _, Nat.le_refl _, ⟨0, rfl, Or.inl rfl, fun z => absurd z (by decide), fun ⟨k, j, z, _⟩ => absurd (q.symm.trans (hv1.mpr ⟨k, z⟩)) (by decide)⟩, rfl⟩, fun q => ?_⟩
  obtain ⟨k, hk, hs⟩ := hv1.mp (zn_or01 hv q)
  have hat := (hg.2.2.1 k hk).1
  have hck : s.toNatClampNeg = k := zn_c hs (by omega)
  refine ⟨d - 1, 0, 0, _, _, by omega, Nat.le_refl _, Nat.le_refl _, ct_M_in (by omega), ?_, fun _ _ h => h.elim⟩
  rintro r μ1 ⟨rfl, hμ1⟩
  have hμ1 := hμ1.symm
  subst hμ1
  have hin : ¬ (s < 0 ∨ 7 < s) := by
    rintro (z | z)
    · rw [hs] at z; exact gq_neg k (by omega) z
    · exact absurd z (zn_nl (show (7 : Int32) = nI 7 from rfl) hs (by omega) (by decide))
  rw [if_neg hin]
  refine ⟨fun z => absurd z (by decide), fun _ => ⟨zn_i hs (by omega) (by decide), ?_⟩⟩
  refine ⟨d - 1, 0, 0, _, _, by omega, Nat.le_refl _, Nat.le_refl _, ct_M_in (by omega), ?_, fun _ _ h => h.elim⟩
  rintro r μ1 ⟨rfl, hμ1⟩
  have hμ1 := hμ1.symm
  subst hμ1
  have e31 : μ.1 31 0 s.toNatClampNeg = nI (gq_at g k) := by rw [hck]; exact (hM.2.2.1 k hk).1
  have key := zn_m1 (n := gq_at g k) (s := a) (by omega)
  rw [← e31] at key
  have huq : ∀ k' j, gs_at g s a k' j → ∃ j, j < gq_at g k ∧ a = nI j := fun k' j z => by
    have hk' := z.1.1
    rw [show k = k' from (nI_eq (by omega) (by omega)).mp (hs.symm.trans z.1.2)]
    exact ⟨j, z.2⟩
  by_cases q2 : a < 0 ∨ μ.1 31 0 s.toNatClampNeg - 1 < a
  · rw [if_pos q2]
    exact ⟨fun _ => ⟨rfl, Or.inr ⟨rfl, Or.inl rfl⟩, Nat.le_refl _, Nat.le_refl _, ⟨0, rfl, Or.inl rfl, fun z => absurd z (by decide), fun ⟨k', j, z⟩ => absurd q2 (key.mpr (huq k' j z))⟩, rfl⟩, fun z => absurd rfl z⟩
  · rw [if_neg q2]
    obtain ⟨j, hj⟩ := key.mp q2
    exact ⟨fun z => absurd z (by decide), fun _ => ⟨rfl, Or.inr ⟨rfl, Or.inr rfl⟩, Nat.le_refl _, Nat.le_refl _, ⟨1, rfl, Or.inr rfl, fun _ => ⟨k, j, ⟨hk, hs⟩, hj⟩, fun _ => rfl⟩, rfl⟩⟩
set_option maxHeartbeats 8000000 in
theorem ct_M_relation {Γ : zk_G} {d : Nat} {s a l : Int32} {fa : Bool} {μ : za_M} {g : gq_G} (hg : gq_ok g) (h : gm g μ) (hl : l = if fa = true then 1 else 0) (hd : 4 ≤ d) : zk_Ct zt Γ zm_M_relation d 0 0 [za_r 30 0, za_i s, za_i a, za_i l] μ
    (fun r μ' => (∃ v : Int32, r = some (za_i v) ∧ ((∃ k j, gs_at g s a k j ∧ gs_rel g k j fa v ∧ μ'.1 30 0 0 = 0) ∨ ((¬ ∃ k j, gs_at g s a k j) ∧ μ'.1 30 0 0 = 1))) ∧ gm g μ' ∧ zq_fr (fun b _ => 30 ≤ b) μ μ') (fun _ _ => False) := by
  have hns : gq_ns g ≤ 8 := hg.1
  refine zs_M_relation (Nat.le_of_ble_eq_true rfl) (by omega) (fun ZZ run => ?_)
  have c24 : ∀ k j, gs_at g s a k j → ZZ 24 [some (za_r 30 0), some (za_i s), some (za_i a), some (za_i l)] [] (gm_t μ 0) (0, 0) := by
    intro k j hat
    obtain ⟨⟨hk, hs⟩, hj, ha⟩ := hat
    have h0 := gm_tg (t := 0) h
    have hck : s.toNatClampNeg = k := zn_c hs (by omega)
    have hj6 := (hg.2.2.1 k hk).1
    have hi : (8 : Int32) * s + a = nI (8 * k + j) := by rw [hs, ha, zn_8, nI_add]
    have hci : ((8 : Int32) * s + a).toNatClampNeg = 8 * k + j := zn_c hi (by omega)
    refine run [] 60 24 _ _ _ _ ?_
    refine ⟨d - 1, 0, 0, _, _, by omega, Nat.le_refl _, Nat.le_refl _, ct_M_relate hg h0.1 h0.2.2 (by omega), ?_, fun _ _ h => h.elim⟩
    rintro r μ1 ⟨rfl, hfin, hb⟩
    obtain ⟨h1, hf1⟩ := gm_r h0 hfin hb
    have t0 : μ1.1 30 0 0 = 0 := by rw [hb.2.1 0 (by decide) (by decide) (by decide)]; exact gm_t0
    have hfr : zq_fr (fun b _ => 30 ≤ b) μ μ1 := zq_tr (gm_tf (t := 0)) hf1
    have h01 := hfin.2.2.1 k (by omega)
    have hX : μ1.1 39 0 k = 1 ↔ un_X g k := (mo_xs μ1 (by omega)).symm.trans (hfin.1 k)
    refine ⟨zn_i hs (by omega) (by decide), fun q => ?_, fun q => ?_⟩
    · have q : ¬ μ1.1 39 0 s.toNatClampNeg = 0 := q
      rw [hck] at q
      have hx := hX.mp (zn_or01 h01 q)
      refine ⟨fun ql => ⟨zn_i hi (by omega) (by decide), rfl, Or.inl rfl, Nat.le_refl _, Nat.le_refl _, ⟨_, rfl, Or.inl ⟨k, j, ⟨⟨hk, hs⟩, hj, ha⟩, Or.inr ⟨hx, fun b => ?_⟩, t0⟩⟩, h1, hfr⟩, fun ql => ⟨zn_i hi (by omega) (by decide), rfl, Or.inl rfl, Nat.le_refl _, Nat.le_refl _, ⟨_, rfl, Or.inl ⟨k, j, ⟨⟨hk, hs⟩, hj, ha⟩, Or.inr ⟨hx, fun b => ?_⟩, t0⟩⟩, h1, hfr⟩⟩
      · have hfa : fa = false := by
          cases hq : fa with
          | false => rfl
          | true => rw [hl, hq] at ql; exact absurd ql (by decide)
        rw [hfa, if_neg (by decide), hci]
        constructor
        · intro z
          have := (hfin.2.2.2.1.1 _ b (by omega) z).1
          refine ⟨by omega, (hfin.1 _).mp ((mo_xu μ1 (by omega) (by omega) (by omega)).mpr z)⟩
        · rintro ⟨z1, z2⟩
          exact (mo_xu μ1 (by omega) (by omega) z1).mp ((hfin.1 _).mpr z2)
      · have hfa : fa = true := by
          cases hq : fa with
          | true => rfl
          | false => rw [hl, hq] at ql; exact absurd rfl ql
        rw [hfa, if_pos rfl, hci]
        constructor
        · intro z
          have := (hfin.2.2.2.1.2 _ b (by omega) z).1
          refine ⟨by omega, (hfin.2.1 _).mp ((mo_yu μ1 (by omega) (by omega) (by omega)).mpr z)⟩
        · rintro ⟨z1, z2⟩
          exact (mo_yu μ1 (by omega) (by omega) z1).mp ((hfin.2.1 _).mpr z2)
    · have q : μ1.1 39 0 s.toNatClampNeg = 0 := q
      rw [hck] at q
      exact ⟨rfl, Or.inl rfl, Nat.le_refl _, Nat.le_refl _, ⟨-1, rfl, Or.inl ⟨k, j, ⟨⟨hk, hs⟩, hj, ha⟩, Or.inl ⟨fun z => absurd (q.symm.trans (hX.mpr z)) (by decide), rfl⟩, t0⟩⟩, h1, hfr⟩
  have c15 : ∀ x : Int32, (x = 0 ∨ x = 1) → (x = 0 ↔ ∃ k j, gs_at g s a k j) → ZZ 15 [some (za_r 30 0), some (za_i s), some (za_i a), some (za_i l)] [za_i x, za_r 30 0] μ (0, 0) := by
    intro x hx hxS
    refine run [24] 60 15 _ _ _ _ ?_
    refine ⟨d - 1, 0, 0, _, _, by omega, Nat.le_refl _, Nat.le_refl _, ct_M_refuse (by omega), ?_, fun _ _ h => h.elim⟩
    rintro r μ1 ⟨rfl, hμ1⟩
    have hμ1 : μ1 = gm_t μ (mo_t x 0) := hμ1
    subst hμ1
    rcases hx with rfl | rfl
    · rw [show mo_t 0 0 = 0 by decide, if_pos rfl]
      obtain ⟨k, j, hat⟩ := hxS.mp rfl
      exact ⟨fun _ => c24 k j hat, fun q => absurd rfl q⟩
    · rw [show mo_t 1 0 = 1 by decide, if_neg (by decide)]
      exact ⟨fun q => absurd q (by decide), fun _ => ⟨rfl, Or.inl rfl, Nat.le_refl _, Nat.le_refl _, ⟨0, rfl, Or.inr ⟨fun z => absurd (hxS.mpr z) (by decide), gm_t0⟩⟩, gm_tg h, gm_tf⟩⟩
  refine run [15] 60 0 _ _ _ _ ?_
  refine ⟨d - 1, 0, 0, _, _, by omega, Nat.le_refl _, Nat.le_refl _, ct_M_isAttribute hg h.1 (by omega), ?_, fun _ _ h => h.elim⟩
  rintro r μ1 ⟨⟨v, rfl, hv, hv1⟩, hμ1⟩
  have hμ1 := hμ1.symm
  subst hμ1
  exact ⟨fun q => c15 0 (Or.inl rfl) ⟨fun _ => hv1.mp (zn_or01 hv q), fun _ => rfl⟩, fun q => c15 1 (Or.inr rfl) ⟨fun z => absurd z (by decide), fun z => absurd (q.symm.trans (hv1.mpr z)) (by decide)⟩⟩
set_option maxHeartbeats 8000000 in
theorem ct_M_pass {Γ : zk_G} {d : Nat} {s a l : Int32} {tb : Bool} {μ : za_M} {g : gq_G} (hg : gq_ok g) (h : gm g μ) (hl : l = if tb = true then 1 else 0) (hd : 9 ≤ d) : zk_Ct zt Γ zm_M_pass d 0 0 [za_r 30 0, za_i s, za_i a, za_i l] μ
    (fun r μ' => (∃ v : Int32, r = some (za_i v) ∧ ((∃ k j, gs_at g s a k j ∧ gs_pass g tb k j v ∧ μ'.1 30 0 0 = 0) ∨ ((¬ ∃ k j, gs_at g s a k j) ∧ μ'.1 30 0 0 = 1))) ∧ gm g μ' ∧ zq_fr (fun b _ => 30 ≤ b) μ μ') (fun _ _ => False) := by
  have hns : gq_ns g ≤ 8 := hg.1
  refine zs_M_pass (Nat.le_of_ble_eq_true rfl) (by omega) (fun ZZ run => ?_)
  have c24 : ∀ k j, gs_at g s a k j → ZZ 24 [some (za_r 30 0), some (za_i s), some (za_i a), some (za_i l)] [] (gm_t μ 0) (0, 0) := by
    intro k j hat
    obtain ⟨⟨hk, hs⟩, hj, ha⟩ := hat
    have h0 := gm_tg (t := 0) h
    have hj6 := (hg.2.2.1 k hk).1
    have hi : (8 : Int32) * s + a = nI (8 * k + j) := by rw [hs, ha, zn_8, nI_add]
    have hci : ((8 : Int32) * s + a).toNatClampNeg = 8 * k + j := zn_c hi (by omega)
    have hvi : vp_in ((8 : Int32) * s + a) 64 := zn_i hi (by omega) (by decide)
    refine run [] 60 24 _ _ _ _ ?_
    refine ⟨d - 1, 0, 0, _, _, by omega, Nat.le_refl _, Nat.le_refl _, ct_M_findPasses hg h0.1 hl (by omega), ?_, fun _ _ h => h.elim⟩
    rintro r μ1 ⟨rfl, ⟨n, n1, n2, n3, _⟩, h30, hf⟩
    obtain ⟨h1, hf1⟩ := gm_p h0 h30 hf
    have t0 : μ1.1 30 0 0 = 0 := by rw [h30 0 (by decide)]; exact gm_t0
    have hfr : zq_fr (fun b _ => 30 ≤ b) μ μ1 := zq_tr (gm_tf (t := 0)) hf1
    have e42 : μ1.1 42 0 ((8 : Int32) * s + a).toNatClampNeg = nI (ps_nb g tb n (8 * k + j)) := by rw [hci]; exact n3 _ (by omega)
    have hle := ps_nb_le g tb n (8 * k + j)
    refine ⟨hvi, fun q => ⟨hvi, rfl, Or.inl rfl, Nat.le_refl _, Nat.le_refl _, ⟨_, rfl, Or.inl ⟨k, j, ⟨⟨hk, hs⟩, hj, ha⟩, ⟨n, n1, n2, ?_⟩, t0⟩⟩, h1, hfr⟩, fun q => ⟨rfl, Or.inl rfl, Nat.le_refl _, Nat.le_refl _, ⟨_, rfl, Or.inl ⟨k, j, ⟨⟨hk, hs⟩, hj, ha⟩, ⟨n, n1, n2, ?_⟩, t0⟩⟩, h1, hfr⟩⟩
    · rw [e42] at q ⊢
      unfold nu_v
      rw [if_neg (fun z => q (by rw [z]; rfl))]
    · rw [e42] at q
      unfold nu_v
      rw [if_pos ((nI_eq (b := 0) (by omega) (by decide)).mp q)]
  have c15 : ∀ x : Int32, (x = 0 ∨ x = 1) → (x = 0 ↔ ∃ k j, gs_at g s a k j) → ZZ 15 [some (za_r 30 0), some (za_i s), some (za_i a), some (za_i l)] [za_i x, za_r 30 0] μ (0, 0) := by
    intro x hx hxS
    refine run [24] 60 15 _ _ _ _ ?_
    refine ⟨d - 1, 0, 0, _, _, by omega, Nat.le_refl _, Nat.le_refl _, ct_M_refuse (by omega), ?_, fun _ _ h => h.elim⟩
    rintro r μ1 ⟨rfl, hμ1⟩
    have hμ1 : μ1 = gm_t μ (mo_t x 0) := hμ1
    subst hμ1
    rcases hx with rfl | rfl
    · rw [show mo_t 0 0 = 0 by decide, if_pos rfl]
      obtain ⟨k, j, hat⟩ := hxS.mp rfl
      exact ⟨fun _ => c24 k j hat, fun q => absurd rfl q⟩
    · rw [show mo_t 1 0 = 1 by decide, if_neg (by decide)]
      exact ⟨fun q => absurd q (by decide), fun _ => ⟨rfl, Or.inl rfl, Nat.le_refl _, Nat.le_refl _, ⟨0, rfl, Or.inr ⟨fun z => absurd (hxS.mpr z) (by decide), gm_t0⟩⟩, gm_tg h, gm_tf⟩⟩
  refine run [15] 60 0 _ _ _ _ ?_
  refine ⟨d - 1, 0, 0, _, _, by omega, Nat.le_refl _, Nat.le_refl _, ct_M_isAttribute hg h.1 (by omega), ?_, fun _ _ h => h.elim⟩
  rintro r μ1 ⟨⟨v, rfl, hv, hv1⟩, hμ1⟩
  have hμ1 := hμ1.symm
  subst hμ1
  exact ⟨fun q => c15 0 (Or.inl rfl) ⟨fun _ => hv1.mp (zn_or01 hv q), fun _ => rfl⟩, fun q => c15 1 (Or.inr rfl) ⟨fun z => absurd z (by decide), fun z => absurd (q.symm.trans (hv1.mpr z)) (by decide)⟩⟩
set_option maxHeartbeats 8000000 in
theorem ct_M_passes {Γ : zk_G} {d : Nat} {l : Int32} {tb : Bool} {μ : za_M} {g : gq_G} (hg : gq_ok g) (h : gm g μ) (hl : l = if tb = true then 1 else 0) (hd : 9 ≤ d) : zk_Ct zt Γ zm_M_passes d 0 0 [za_r 30 0, za_i l] μ
    (fun r μ' => (∃ v : Int32, gs_passes g tb v ∧ r = some (za_i v)) ∧ gm g μ' ∧ zq_fr (fun b _ => 30 ≤ b) μ μ') (fun _ _ => False) := by
  have hns : gq_ns g ≤ 8 := hg.1
  have h0 : gm g (gm_t μ 0) := gm_tg h
  refine zs_M_passes (Nat.le_of_ble_eq_true rfl) (by omega) (fun ZZ run => ?_)
  refine run [14] 60 0 _ _ _ _ ?_
  refine ⟨d - 1, 0, 0, _, _, by omega, Nat.le_refl _, Nat.le_refl _, ct_M_findPasses (μ := gm_t μ 0) hg h0.1 hl (by omega), ?_, fun _ _ h => h.elim⟩
  rintro r μ1 ⟨rfl, ⟨n, n1, n2, n3, n4⟩, h30, hf⟩
  obtain ⟨h1, hf1⟩ := gm_p h0 h30 hf
  have hfr : zq_fr (fun b _ => 30 ≤ b) μ μ1 := zq_tr (gm_tf (t := 0)) hf1
  have loop := zn_for (σ := Int32) (N := 64)
    (P := fun k v => ∀ y : Int32, y = nI k → ZZ 14 [some (za_r 30 0), some (za_i l), some (za_i v), some (za_i y)] [] μ1 (0, 0))
    (I := fun k v => (v = 0 ∨ v = 1) ∧ (v = 1 ↔ ∀ i, i < k → ps_at g i → ps_nb g tb n i ≠ 0))
    (fun v hI y hy => by
      have hall : (∀ i, i < 64 → ps_at g i → ps_nb g tb n i ≠ 0) ↔ ∀ i, ps_at g i → ps_nb g tb n i ≠ 0 := ⟨fun q i z => q i (by have := z.1; omega) z, fun q i _ z => q i z⟩
      refine run [14, 60, 64] 60 14 _ _ _ _ ?_
      refine ⟨fun _ => ?_, fun q => absurd (by rw [hy]; exact nI_le (Nat.le_refl 64) (by decide)) q⟩
      refine ⟨fun q => ⟨rfl, Or.inl rfl, Nat.le_refl _, Nat.le_refl _, ⟨_, ⟨n, n1, n2, Or.inr ⟨fun z => ?_, rfl⟩⟩, rfl⟩, h1, hfr⟩, fun q => ⟨rfl, Or.inl rfl, Nat.le_refl _, Nat.le_refl _, ⟨_, ⟨n, n1, n2, Or.inl ⟨hall.mp (hI.2.mp (zn_or01 hI.1 q)), n4⟩⟩, rfl⟩, h1, hfr⟩⟩
      exact absurd (q.symm.trans (hI.2.mpr (hall.mpr z))) (by decide))
    (fun k v hk hI ih y hy => by
      have hck : y.toNatClampNeg = k := zn_c hy (by omega)
      have hb : vp_in y 64 := zn_i hy hk (by decide)
      have hdv : y / 8 = nI (k / 8) := by rw [hy]; exact zn_div (by omega)
      have hrm : y - y / 8 * 8 = nI (k % 8) := by rw [hy]; exact zn_rem (by omega)
      have e1 : μ1.1 30 0 1 = nI (gq_ns g) := h1.1.1
      have e42 : μ1.1 42 0 y.toNatClampNeg = nI (ps_nb g tb n k) := by rw [hck]; exact n3 k hk
      have hle := ps_nb_le g tb n k
      have yes : ¬ v = 0 → (ps_at g k → ps_nb g tb n k ≠ 0) → ZZ 60 [some (za_r 30 0), some (za_i l), some (za_i v), some (za_i y)] [] μ1 (0, 0) := by
        intro q1 q2
        refine run [14] 40 60 _ _ _ _ ?_
        refine ih 1 ⟨Or.inr rfl, fun _ i hi z => ?_, fun _ => rfl⟩ _ (zn_s hy)
        by_cases e : i = k
        · subst e; exact q2 z
        · exact hI.2.mp (zn_or01 hI.1 q1) i (by omega) z
      have no : (v = 0 ∨ ¬ (ps_at g k → ps_nb g tb n k ≠ 0)) → ZZ 64 [some (za_r 30 0), some (za_i l), some (za_i v), some (za_i y)] [] μ1 (0, 0) := by
        intro q1
        refine run [14] 40 64 _ _ _ _ ?_
        refine ih 0 ⟨Or.inl rfl, fun z => absurd z (by decide), fun z => ?_⟩ _ (zn_s hy)
        rcases q1 with q1 | q1
        · have := hI.2.mpr (fun i hi => z i (by omega))
          exact absurd (q1.symm.trans this) (by decide)
        · exact absurd (z k (Nat.lt_succ_self k)) q1
      refine run [14, 60, 64] 60 14 _ _ _ _ ?_
      refine ⟨fun q => absurd q (zn_ge hy rfl hk (by decide)), fun _ => ⟨fun q => no (Or.inl q), fun q => ⟨by decide, fun hs => yes q ?_, fun hs => ?_⟩⟩⟩
      · intro z
        have hs : μ1.1 30 0 1 ≤ y / 8 := hs
        rw [hdv, e1] at hs
        exact absurd hs (nI_ge z.1 (by omega))
      · have hs : ¬ μ1.1 30 0 1 ≤ y / 8 := hs
        have hs : k / 8 < gq_ns g := Classical.byContradiction fun w => hs (by rw [hdv, e1]; exact nI_le (by omega) (by omega))
        have hat6 := (hg.2.2.1 _ hs).1
        have e31 : μ1.1 31 0 (y / 8).toNatClampNeg = nI (gq_at g (k / 8)) := by rw [zn_c hdv (by omega)]; exact (h1.1.2.2.1 _ hs).1
        refine ⟨by decide, by decide, zn_i hdv (by omega) (by decide), fun ha => yes q ?_, fun ha => ⟨hb, fun hz => no (Or.inr ?_), fun hz => yes q ?_⟩⟩
        · intro z
          have ha : μ1.1 31 0 (y / 8).toNatClampNeg ≤ y - y / 8 * 8 := ha
          rw [hrm, e31] at ha
          exact absurd ha (nI_ge z.2 (by omega))
        · have ha : ¬ μ1.1 31 0 (y / 8).toNatClampNeg ≤ y - y / 8 * 8 := ha
          rw [hrm, e31] at ha
          have hz : μ1.1 42 0 y.toNatClampNeg ≤ 0 := hz
          rw [e42] at hz
          intro z
          refine z ⟨hs, Classical.byContradiction fun w => ha (nI_le (by omega) (by omega))⟩ ?_
          exact Classical.byContradiction fun w => absurd hz (nI_ge (a := 0) (by omega) (by omega))
        · intro _ z
          have hz : ¬ μ1.1 42 0 y.toNatClampNeg ≤ 0 := hz
          rw [e42, z] at hz
          exact hz (by decide))
  exact loop 0 1 (Nat.zero_le _) ⟨Or.inr rfl, fun _ i hi => absurd hi (Nat.not_lt_zero i), fun _ => rfl⟩ 0 rfl
