/-! the class: TreeGraphs, find -/
def tf_S (b j : Nat) : Prop := ((b = 11 ∨ b = 12 ∨ b = 15 ∨ b = 16) ∧ j = 0) ∨ b = 14 ∨ b = 18 ∨ b = 19
theorem tf_Cg {g : gq_G} {μ μ' : za_M} (hC : gq_C g μ) (hf : zq_fr tf_S μ μ') : gq_C g μ' := gq_C_fr hC hf (fun b j h q => by rcases q with q | q <;> omega)
set_option maxHeartbeats 4000000 in
theorem ct_T_forget {Γ : zk_G} {d : Nat} {μ : za_M} (hd : 1 ≤ d) : zk_Ct zt Γ zm_T_forget d 0 0 [za_r 11 0] μ (fun r μ' => r = none ∧ (∀ s, s < 8 → μ'.1 12 0 s = 0 ∧ μ'.1 15 0 s = 0 ∧ μ'.1 16 0 s = 0) ∧ μ'.1 11 0 1 = 0 ∧ μ'.1 11 0 2 = 0 ∧ zq_fr tf_S μ μ') (fun _ _ => False) := by
  refine zs_T_forget (Nat.le_of_ble_eq_true rfl) hd (fun ZZ run => ?_)
  have loop := zn_for (σ := za_M) (N := 8)
    (P := fun k μ1 => ∀ y : Int32, y = nI k → ZZ 12 [some (za_r 11 0), some (za_i y)] [] μ1 (0, 0))
    (I := fun k μ1 => (∀ s, s < k → μ1.1 12 0 s = 0 ∧ μ1.1 15 0 s = 0 ∧ μ1.1 16 0 s = 0) ∧ μ1.1 11 0 1 = 0 ∧ μ1.1 11 0 2 = 0 ∧ zq_fr tf_S μ μ1)
    (fun μ1 h y hy => by
      refine run [12] 40 12 _ _ _ _ ?_
      refine ⟨fun _ => ?_, fun q => absurd (by rw [hy]; exact nI_le (Nat.le_refl 8) (by decide)) q⟩
      exact ⟨rfl, rfl, Nat.le_refl _, Nat.le_refl _, rfl, h⟩)
    (fun k μ1 hk h ih y hy => by
      have hck : y.toNatClampNeg = k := zn_c hy (by omega)
      have hb : vp_in y 8 := zn_i hy hk (by decide)
      refine run [12] 40 12 _ _ _ _ ?_
      refine ⟨fun q => absurd q (zn_ge hy rfl hk (by decide)), fun _ => ⟨hb, hb, hb, ?_⟩⟩
      refine ih _ ⟨fun i hi => ?_, ?_, ?_, zq_u (zq_u (zq_u h.2.2.2 (Or.inl ⟨by decide, rfl⟩)) (Or.inl ⟨by decide, rfl⟩)) (Or.inl ⟨by decide, rfl⟩)⟩ _ (zn_s hy)
      · dsimp only
        rw [hck, za_u_b (show (12 : Nat) ≠ 16 by decide), za_u_b (show (12 : Nat) ≠ 15 by decide), za_u_b (show (15 : Nat) ≠ 16 by decide)]
        by_cases e : i = k
        · subst e
          rw [za_u_same, za_u_same, za_u_same]
          exact ⟨rfl, rfl, rfl⟩
        · rw [za_u_i e, za_u_i e, za_u_i e, za_u_b (show (15 : Nat) ≠ 12 by decide), za_u_b (show (16 : Nat) ≠ 15 by decide), za_u_b (show (16 : Nat) ≠ 12 by decide)]
          exact h.1 i (by omega)
      · dsimp only
        rw [za_u_b (show (11 : Nat) ≠ 16 by decide), za_u_b (show (11 : Nat) ≠ 15 by decide), za_u_b (show (11 : Nat) ≠ 12 by decide)]
        exact h.2.1
      · dsimp only
        rw [za_u_b (show (11 : Nat) ≠ 16 by decide), za_u_b (show (11 : Nat) ≠ 15 by decide), za_u_b (show (11 : Nat) ≠ 12 by decide)]
        exact h.2.2.1)
  refine run [12] 40 0 _ _ _ _ ?_
  refine ⟨Or.inl rfl, Or.inl rfl, ?_⟩
  refine loop 0 _ (Nat.zero_le _) ⟨fun i hi => absurd hi (Nat.not_lt_zero i), ?_, ?_, zq_u (zq_u zq_rf (Or.inl ⟨by decide, rfl⟩)) (Or.inl ⟨by decide, rfl⟩)⟩ 0 rfl
  · dsimp only
    rw [za_u_i (show (1 : Nat) ≠ 2 by decide), za_u_same]
  · dsimp only
    rw [za_u_same]
set_option maxHeartbeats 4000000 in
theorem ct_T_beginRound {Γ : zk_G} {d : Nat} {N K : Nat → Nat} {μ : za_M} (h15 : ∀ s, s < 8 → μ.1 15 0 s = nI (N s) ∧ N s ≤ 10) (h12 : ∀ s, s < 8 → μ.1 12 0 s = nI (K s) ∧ K s ≤ 10) (hd : 1 ≤ d) : zk_Ct zt Γ zm_T_beginRound d 0 0 [za_r 11 0] μ (fun r μ' => (∃ v : Int32, r = some (za_i v) ∧ (v = 0 ∨ v = 1) ∧ (v = 1 ↔ ∃ s, s < 8 ∧ N s < K s)) ∧ (∀ s, s < 8 → μ'.1 15 0 s = nI (K s) ∧ μ'.1 16 0 s = nI (N s)) ∧ zq_fr (fun b j => (b = 15 ∨ b = 16) ∧ j = 0) μ μ') (fun _ _ => False) := by
  refine zs_T_beginRound (Nat.le_of_ble_eq_true rfl) hd (fun ZZ run => ?_)
  have loop := zn_for (σ := za_M × Int32) (N := 8)
    (P := fun k t => ∀ y : Int32, y = nI k → ZZ 4 [some (za_r 11 0), some (za_i t.2), some (za_i y)] [] t.1 (0, 0))
    (I := fun k t => (t.2 = 0 ∨ t.2 = 1) ∧ (t.2 = 1 ↔ ∃ s, s < k ∧ N s < K s) ∧ (∀ s, s < 8 → t.1.1 15 0 s = (if s < k then nI (K s) else nI (N s)) ∧ (s < k → t.1.1 16 0 s = nI (N s))) ∧ zq_fr (fun b j => (b = 15 ∨ b = 16) ∧ j = 0) μ t.1)
    (fun t h y hy => by
      refine run [4] 60 4 _ _ _ _ ?_
      refine ⟨fun _ => ?_, fun q => absurd (by rw [hy]; exact nI_le (Nat.le_refl 8) (by decide)) q⟩
      refine ⟨rfl, Or.inr ⟨rfl, h.1⟩, Nat.le_refl _, Nat.le_refl _, ⟨t.2, rfl, h.1, h.2.1⟩, fun s hs => ⟨?_, (h.2.2.1 s hs).2 hs⟩, h.2.2.2⟩
      rw [(h.2.2.1 s hs).1, if_pos hs])
    (fun k t hk h ih y hy => by
      obtain ⟨i1, i2, i3, i4⟩ := h
      have hck : y.toNatClampNeg = k := zn_c hy (by omega)
      have hb : vp_in y 8 := zn_i hy hk (by decide)
      have e15 : t.1.1 15 0 y.toNatClampNeg = nI (N k) := by rw [hck, (i3 k hk).1, if_neg (Nat.lt_irrefl k)]
      have e12 : t.1.1 12 0 y.toNatClampNeg = nI (K k) := by rw [hck, i4.1 12 0 (by decide)]; exact (h12 k hk).1
      have hNk := (h15 k hk).2
      have hKk := (h12 k hk).2
      have fin : ∀ v' : Int32, (v' = 0 ∨ v' = 1) → (v' = 1 ↔ (t.2 = 1 ∨ N k < K k)) → ZZ 4 [some (za_r 11 0), some (za_i v'), some (za_i (y + 1))] [] (za_u (za_u t.1.1 16 0 y.toNatClampNeg (t.1.1 15 0 y.toNatClampNeg)) 15 0 y.toNatClampNeg (t.1.1 12 0 y.toNatClampNeg), t.1.2) (0, 0) := by
        intro v' q1 q2
        rw [e15, e12, hck]
        refine ih (_, v') ⟨q1, q2.trans ?_, fun s hs => ⟨?_, fun z => ?_⟩, zq_u (zq_u i4 ⟨by decide, rfl⟩) ⟨by decide, rfl⟩⟩ _ (zn_s hy)
        · rw [i2]
          constructor
          · rintro (⟨s, z1, z2⟩ | z)
            · exact ⟨s, by omega, z2⟩
            · exact ⟨k, by omega, z⟩
          · rintro ⟨s, z1, z2⟩
            by_cases e : s = k
            · subst e; exact Or.inr z2
            · exact Or.inl ⟨s, by omega, z2⟩
        · dsimp only
          by_cases e : s = k
          · subst e
            rw [za_u_same, if_pos (Nat.lt_succ_self s)]
          · rw [za_u_i e, za_u_b (show (15 : Nat) ≠ 16 by decide), (i3 s hs).1]
            by_cases e2 : s < k
            · rw [if_pos e2, if_pos (by omega)]
            · rw [if_neg e2, if_neg (by omega)]
        · dsimp only
          rw [za_u_b (show (16 : Nat) ≠ 15 by decide)]
          by_cases e : s = k
          · subst e; rw [za_u_same]
          · rw [za_u_i e]; exact (i3 s hs).2 (by omega)
      have f15 : za_u (za_u t.1.1 16 0 y.toNatClampNeg (t.1.1 15 0 y.toNatClampNeg)) 15 0 y.toNatClampNeg (t.1.1 12 0 y.toNatClampNeg) 15 0 y.toNatClampNeg = nI (K k) := by rw [za_u_same, e12]
      have f16 : za_u (za_u t.1.1 16 0 y.toNatClampNeg (t.1.1 15 0 y.toNatClampNeg)) 15 0 y.toNatClampNeg (t.1.1 12 0 y.toNatClampNeg) 16 0 y.toNatClampNeg = nI (N k) := by rw [za_u_b (show (16 : Nat) ≠ 15 by decide), za_u_same, e15]
      have e12' : za_u t.1.1 16 0 y.toNatClampNeg (t.1.1 15 0 y.toNatClampNeg) 12 0 y.toNatClampNeg = t.1.1 12 0 y.toNatClampNeg := by rw [za_u_b (show (12 : Nat) ≠ 16 by decide)]
      refine run [4] 60 4 _ _ _ _ ?_
      refine ⟨fun q => absurd q (zn_ge hy rfl hk (by decide)), fun _ => ⟨hb, hb, hb, hb, hb, hb, fun hq => ?_, fun hq => ?_⟩⟩
      · have hq : ¬ N k < K k := fun z => by
          have hq : za_u (za_u t.1.1 16 0 y.toNatClampNeg (t.1.1 15 0 y.toNatClampNeg)) 15 0 y.toNatClampNeg (t.1.1 12 0 y.toNatClampNeg) 15 0 y.toNatClampNeg ≤ za_u (za_u t.1.1 16 0 y.toNatClampNeg (t.1.1 15 0 y.toNatClampNeg)) 15 0 y.toNatClampNeg (t.1.1 12 0 y.toNatClampNeg) 16 0 y.toNatClampNeg := hq
          rw [f15, f16] at hq
          exact absurd hq (nI_ge z (by omega))
        exact fin _ (by rw [zn_o0 i1]; exact i1) (by rw [zn_o0 i1]; exact ⟨Or.inl, fun q => q.elim id (fun q => absurd q hq)⟩)
      · have hq : N k < K k := Classical.byContradiction fun z => hq (by
          show za_u (za_u t.1.1 16 0 y.toNatClampNeg (t.1.1 15 0 y.toNatClampNeg)) 15 0 y.toNatClampNeg (t.1.1 12 0 y.toNatClampNeg) 15 0 y.toNatClampNeg ≤ za_u (za_u t.1.1 16 0 y.toNatClampNeg (t.1.1 15 0 y.toNatClampNeg)) 15 0 y.toNatClampNeg (t.1.1 12 0 y.toNatClampNeg) 16 0 y.toNatClampNeg
          rw [f15, f16]
          exact nI_le (by omega) (by omega))
        exact fin _ (by rw [zn_o1 i1]; exact Or.inr rfl) (by rw [zn_o1 i1]; exact ⟨fun _ => Or.inr hq, fun _ => rfl⟩))
  refine run [4] 60 0 _ _ _ _ ?_
  exact loop 0 (μ, 0) (Nat.zero_le _) ⟨Or.inl rfl, ⟨fun q => absurd q (show ¬ (0 : Int32) = 1 by decide), fun ⟨s, q, _⟩ => absurd q (Nat.not_lt_zero s)⟩, fun s hs => ⟨by rw [if_neg (Nat.not_lt_zero s)]; exact (h15 s hs).1, fun q => absurd q (Nat.not_lt_zero s)⟩, zq_rf⟩ 0 rfl
/-- what find leaves -/
def tg_cl (g : gq_G) (N : Nat → Nat) (μ : za_M) : Prop := ∀ p, p < gq_np g → ∀ idx, tb_in g p idx N → tg_tr g p idx μ
def tg_fin (g : gq_G) (μ : za_M) : Prop := tg_I g μ ∧ (μ.1 11 0 1 = 0 → tg_cl g (tg_K μ) μ)
set_option maxHeartbeats 16000000 in
theorem ct_T_find {Γ : zk_G} {d : Nat} {μ : za_M} {g : gq_G} (hg : gq_ok g) (hC : gq_C g μ) (hk : μ.1 11 0 0 = 0 ∨ μ.1 11 0 0 = 1 ∧ tg_fin g μ) (hd : 8 ≤ d) : zk_Ct zt Γ zm_T_find d 0 0 [za_r 11 0, za_r 1 0] μ
    (fun r μ' => r = none ∧ tg_fin g μ' ∧ μ'.1 11 0 0 = 1 ∧ zq_fr tf_S μ μ') (fun _ _ => False) := by
  refine zs_T_find (Nat.le_of_ble_eq_true rfl) (by omega) (fun ZZ run => ?_)
  rcases hk with hk | ⟨hk, hfin⟩
  case inr =>
    refine run [] 20 0 _ _ _ _ ?_
    refine ⟨fun q => absurd (hk.symm.trans q) (by decide), fun _ => ?_⟩
    exact ⟨rfl, rfl, Nat.le_refl _, Nat.le_refl _, rfl, hfin, hk, zq_rf⟩
  have hnp : gq_np g ≤ 16 := hg.2.1
  have wh := zn_wh (σ := (za_M × (Nat → Nat) × (Nat → Nat)) × Int32 × Nat × Option za_V)
    (P := fun t => ∀ y : Int32, y = nI t.2.2.1 → ZZ 16 [some (za_r 11 0), some (za_r 1 0), some (za_i t.2.1), some (za_i y), t.2.2.2] [] t.1.1 (0, 0))
    (I := fun t => tg_I g t.1.1 ∧ tg_N t.1.1 t.1.2.1 t.1.2.2 ∧ (∀ s, s < 8 → t.1.2.1 s = tg_K t.1.1 s) ∧ (t.2.1 = 0 ∨ t.2.1 = 1) ∧ (¬ t.2.2.1 = 0 → t.1.1.1 11 0 1 = 0 → tg_cl g t.1.2.2 t.1.1) ∧ (t.2.1 = 0 → t.1.1.1 11 0 1 = 0 → tg_cl g (tg_K t.1.1) t.1.1) ∧ (t.2.1 = 1 → t.2.2.1 ≤ sm t.1.2.1 8) ∧ zq_fr tf_S μ t.1.1)
    (fun t => 2 * (100 - sm t.1.2.1 8) + t.2.1.toNatClampNeg)
    (fun t0 h ihw y hy => by
      obtain ⟨i1, i2, i3, i4, i5, i6, i7, i8⟩ := h
      have hC0 := tf_Cg hC i8
      have hN10 : ∀ s, s < 8 → t0.1.2.1 s ≤ 10 := fun s hs => by rw [i3 s hs]; exact (i1.1.1 s hs).2
      have hsm := sm_max (f := t0.1.2.1) (c := 10) 8 hN10
      have stop : (t0.1.1.1 11 0 1 = 0 → tg_cl g (tg_K t0.1.1) t0.1.1) → ZZ 96 [some (za_r 11 0), some (za_r 1 0), some (za_i t0.2.1), some (za_i y), t0.2.2.2] [] t0.1.1 (0, 0) := by
        intro q
        refine run [] 20 96 _ _ _ _ ?_
        refine ⟨Or.inr rfl, rfl, rfl, Nat.le_refl _, Nat.le_refl _, rfl, ?_⟩
        suffices post : ∀ μ2 : za_M, (za_u t0.1.1.1 11 0 0 1, t0.1.1.2) = μ2 → tg_fin g μ2 ∧ μ2.1 11 0 0 = 1 ∧ zq_fr tf_S μ μ2 from post _ rfl
        intro μ2 hμ2
        have n12 : μ2.1 12 0 = t0.1.1.1 12 0 := by rw [← hμ2]; dsimp only; rw [za_u_b (by decide)]
        have n1 : μ2.1 11 0 1 = t0.1.1.1 11 0 1 := by rw [← hμ2]; dsimp only; rw [za_u_i (by decide)]
        have n2 : μ2.1 11 0 2 = t0.1.1.1 11 0 2 := by rw [← hμ2]; dsimp only; rw [za_u_i (by decide)]
        have n14 : ∀ s, μ2.2 14 s = t0.1.1.2 14 s := fun s => by rw [← hμ2]
        have eK : tg_K μ2 = tg_K t0.1.1 := by funext s; unfold tg_K; rw [n12]
        have eT : tg_T μ2 = tg_T t0.1.1 := by funext s i; unfold tg_T; rw [n14]
        have eC : tg_C μ2 = tg_C t0.1.1 := by unfold tg_C; rw [n2]
        refine ⟨⟨?_, ?_⟩, ?_, ?_⟩
        · unfold tg_I tg_ok tg_so at i1 ⊢
          rw [eK, eT, eC, n12, n1, n2]
          exact i1
        · unfold tg_cl tg_tr at q ⊢
          rw [eK, eT, eC, n1]
          exact q
        · rw [← hμ2]; dsimp only; rw [za_u_same]
        · rw [← hμ2]; exact zq_u i8 (Or.inl ⟨by decide, rfl⟩)
      refine run [16, 37, 96] 60 16 _ _ _ _ ?_
      refine ⟨fun hq => stop (i6 hq), fun hq => ⟨fun h1 => stop (fun z => absurd z h1), fun h1 => ⟨fun hz => ?_, fun _ => ?_⟩⟩⟩
      · exact absurd hz (zn_1000 hy (by have := i7 (zn_or01 i4 hq); omega))
      · have hq1 := zn_or01 i4 hq
        have loop := zn_for (σ := za_M) (N := gq_np g)
          (P := fun k μ1 => ∀ x : Int32, x = nI k → ZZ 37 [some (za_r 11 0), some (za_r 1 0), some (za_i t0.2.1), some (za_i y), some (za_i x)] [] μ1 (0, 0))
          (I := fun k μ1 => tg_I g μ1 ∧ tg_le t0.1.1 μ1 ∧ tg_N μ1 t0.1.2.1 t0.1.2.2 ∧ (μ1.1 11 0 1 = 0 → ∀ q, q < k → ∀ idx, tb_in g q idx t0.1.2.1 → tg_fr g q t0.1.2.2 idx 4 (t0.2.2.1 = 0) → tg_tr g q idx μ1) ∧ zq_fr tf_S μ μ1)
          (fun μ1 h x hx => by
            obtain ⟨j1, j2, j3, j4, j5⟩ := h
            have hC1 := tf_Cg hC j5
            refine run [16, 37] 60 37 _ _ _ _ ?_
            refine ⟨fun _ => ?_, fun q => absurd (by rw [hC1.2.1, hx]; exact Int32.le_refl _) q⟩
            refine ⟨d - 1, 0, 0, _, _, by omega, Nat.le_refl _, Nat.le_refl _, ct_T_beginRound (N := t0.1.2.1) (K := tg_K μ1) (fun s hs => ⟨(j3 s hs).1, hN10 s hs⟩) (fun s hs => j1.1.1 s hs) (by omega), ?_, fun _ _ h => h.elim⟩
            rintro r μ2 ⟨⟨v, rfl, hv, hv1⟩, b1, b2⟩
            have n12 : μ2.1 12 0 = μ1.1 12 0 := b2.1 12 0 (by decide)
            have n11 : μ2.1 11 0 = μ1.1 11 0 := b2.1 11 0 (by decide)
            have n14 : ∀ s, μ2.2 14 s = μ1.2 14 s := fun s => b2.2 14 s (fun q => absurd q.1 (by decide))
            have eK : tg_K μ2 = tg_K μ1 := by funext s; unfold tg_K; rw [n12]
            have eT : tg_T μ2 = tg_T μ1 := by funext s i; unfold tg_T; rw [n14]
            have eC : tg_C μ2 = tg_C μ1 := by unfold tg_C; rw [n11]
            have hall : μ1.1 11 0 1 = 0 → tg_cl g t0.1.2.1 μ2 := by
              intro q p hp idx hin
              unfold tg_tr
              rw [eK, eT, eC]
              by_cases hf : tg_fr g p t0.1.2.2 idx 4 (t0.2.2.1 = 0)
              · exact j4 q p hp idx hin hf
              · have h0 : ¬ t0.2.2.1 = 0 := fun z => hf (Or.inl z)
                have hm3 := (hg.2.2.2.2.1 p hp).1
                have hin0 : tb_in g p idx t0.1.2.2 := fun o a b => Classical.byContradiction fun z => hf (Or.inr ⟨o, a, by omega, b, by omega⟩)
                have h01 : t0.1.1.1 11 0 1 = 0 := h1
                exact tb_trm hg hp (fun o a b => Nat.lt_of_lt_of_le (hin0 o a b) (Nat.le_trans (i2 _ (gq_sy8 hg hp b)).2.2.1 (i2 _ (gq_sy8 hg hp b)).2.2.2)) j2 (i5 h0 h01 p hp idx hin0)
            have hNle : ∀ s, s < 8 → t0.1.2.1 s ≤ tg_K μ1 s := fun s hs => (j3 s hs).2.2.2
            refine ihw ((μ2, tg_K μ1, t0.1.2.1), v, t0.2.2.1 + 1, some (za_i x)) ⟨?_, fun s hs => ⟨(b1 s hs).1, (b1 s hs).2, hNle s hs, by rw [eK]; exact Nat.le_refl _⟩, fun s hs => by rw [eK], hv, fun _ q => hall (by rw [← n11]; exact q), fun q0 q => ?_, fun q => ?_, zq_tr j5 (zq_up b2 (fun b j q => Or.inl ⟨by omega, q.2⟩))⟩ ?_ _ (zn_s hy)
            · unfold tg_I tg_ok tg_so at j1 ⊢
              dsimp only
              rw [eK, eT, eC, n11, n12]
              exact j1
            · intro p hp idx hin
              refine hall (by rw [← n11]; exact q) p hp idx (fun o a b => ?_)
              have h8 := gq_sy8 hg hp b
              have := hin o a b
              dsimp only at this
              rw [eK] at this
              have hno : ¬ t0.1.2.1 (gq_sy g p o) < tg_K μ1 (gq_sy g p o) := fun z => absurd (hv1.mpr ⟨_, h8, z⟩) (by rw [show v = 0 from q0]; decide)
              omega
            · have hlt := sm_lt 8 hNle (hv1.mp q)
              have := i7 hq1
              dsimp only
              omega
            · have hle := sm_le 8 hNle
              have hmx := sm_max (f := tg_K μ1) (c := 10) 8 (fun s hs => (j1.1.1 s hs).2)
              dsimp only
              rw [hq1, show (1 : Int32).toNatClampNeg = 1 by decide]
              rcases hv with e | e
              · rw [e, zn_c0]; omega
              · have hlt := sm_lt 8 hNle (hv1.mp e)
                rw [e, show (1 : Int32).toNatClampNeg = 1 by decide]
                omega)
          (fun k μ1 hk h ih x hx => by
            obtain ⟨j1, j2, j3, j4, j5⟩ := h
            have hC1 := tf_Cg hC j5
            obtain ⟨c1, c2, c3, c4, c5, c6⟩ := gq_Cp hg hC1 hx hk
            have hm3 := (hg.2.2.2.2.1 k hk).1
            refine run [37] 60 37 _ _ _ _ ?_
            refine ⟨fun q => absurd q (zn_ge hx hC1.2.1 hk (by omega)), fun _ => ⟨zn_i (k := 0) rfl (by decide) (by decide), c2, ?_⟩⟩
            refine ⟨d - 1, 0, 0, _, _, by omega, Nat.le_refl _, Nat.le_refl _, ct_B_start (J := 0) (by omega), ?_, fun _ _ h => h.elim⟩
            rintro r μ2 ⟨rfl, s1, s2, s3⟩
            obtain ⟨eK, eT, eC, eI, e11⟩ := tg_same (g := g) (zq_up s3 (fun _ _ q => q.1) : zq_fr (fun b _ => b = 18 ∨ b = 19) μ1 μ2)
            have f2 : zq_fr (tg_S 0) μ1 μ2 := zq_up s3 (fun b j q => Or.inr (Or.inr ⟨q.1, Nat.zero_le _⟩))
            have g12 : tg_le μ1 μ2 := by unfold tg_le; rw [eK, eT, eC]; exact tb_rf
            have hB : bd_S μ2 0 (bp_S (fun _ => False) g k 0 1) (gr_En g k (tb_c g k (fun _ => 0) (tg_T μ2)) 1) := by
              refine bd_Sc (bd_S0 (fun i hi => by rw [s1 i hi]; exact c6 i hi) s2) (fun v => ?_) (fun a b => ?_)
              · unfold bp_S
                exact ⟨False.elim, fun q => q.elim id (fun q => by omega)⟩
              · unfold bd_N gr_En
                exact ⟨fun q => ⟨q.1, q.2.1, Or.inl q.2.2⟩, fun q => ⟨q.1, q.2.1, q.2.2.elim id (fun q => by omega)⟩⟩
            have call : ∀ f' : Int32, (f' = 0 ∨ f' = 1) → (f' = 1 ↔ t0.2.2.1 = 0) → zk_Ct zt Γ zm_T_combine (d - 1) 0 0 [za_r 11 0, za_r 1 0, za_i x, za_i 1, za_i f'] μ2 (fun r μ' => r = none ∧ tg_post g k t0.1.2.1 t0.1.2.2 (t0.2.2.1 = 0) 1 (fun _ => 0) μ2 μ') (fun _ _ => False) := fun f' q1 q2 =>
              ct_T_combine (gq_m g k) (h := 0) hg (tg_Cg hC1 f2) (eI j1) (tg_Nm j3 g12 f2) hx rfl (by omega) hk q1 (q2.trans ⟨Or.inl, fun q => q.elim id (fun ⟨o, a, b, _⟩ => by omega)⟩) (fun o a b => by omega) hB (by omega)
            have next : ∀ μ', tg_post g k t0.1.2.1 t0.1.2.2 (t0.2.2.1 = 0) 1 (fun _ => 0) μ2 μ' → ZZ 37 [some (za_r 11 0), some (za_r 1 0), some (za_i t0.2.1), some (za_i y), some (za_i (x + 1))] [] μ' (0, 0) := by
              rintro μ' ⟨p1, p2, p3, p4, p5, p6⟩
              refine ih μ' ⟨p1, tb_tt j2 (tb_tt g12 p2), tg_Nm (tg_Nm j3 g12 f2) p2 p5, fun q r hr idx hin hfr => ?_, zq_tr (zq_tr j5 (zq_up f2 (fun b j q => ?_))) (zq_up p5 (fun b j q => ?_))⟩ _ (zn_s hx)
              · by_cases e : r = k
                · subst e
                  exact p3 q idx (fun o a b => by omega) hin hfr
                · have h01 : μ1.1 11 0 1 = 0 := j1.1.2.2.resolve_right (fun z => absurd ((p4 (by rw [e11]; exact z)).symm.trans q) (by decide))
                  have hr' : r < gq_np g := by omega
                  exact tb_trm hg hr' (fun o a b => Nat.lt_of_lt_of_le (hin o a b) (j3 _ (gq_sy8 hg hr' b)).2.2.2) (tb_tt g12 p2) (j4 h01 r (by omega) idx hin hfr)
              · rcases q with q | q | q
                · exact Or.inl ⟨by omega, q.2⟩
                · exact Or.inr (Or.inl q)
                · exact Or.inr (Or.inr q.1)
              · rcases q with q | q | q
                · exact Or.inl ⟨by omega, q.2⟩
                · exact Or.inr (Or.inl q)
                · exact Or.inr (Or.inr q.1)
            have hr0 : y = 0 ↔ t0.2.2.1 = 0 := by
              rw [hy, show (0 : Int32) = nI 0 from rfl, nI_eq (by have := i7 hq1; omega) (by decide)]
            refine ⟨fun hq => ?_, fun hq => ?_⟩
            · refine ⟨d - 1, 0, 0, _, _, by omega, Nat.le_refl _, Nat.le_refl _, call 0 (Or.inl rfl) ⟨fun q => absurd q (by decide), fun q => absurd (hr0.mpr q) hq⟩, ?_, fun _ _ h => h.elim⟩
              rintro r μ' ⟨rfl, hpost⟩
              exact next μ' hpost
            · refine ⟨d - 1, 0, 0, _, _, by omega, Nat.le_refl _, Nat.le_refl _, call 1 (Or.inr rfl) ⟨fun _ => hr0.mp hq, fun _ => rfl⟩, ?_, fun _ _ h => h.elim⟩
              rintro r μ' ⟨rfl, hpost⟩
              exact next μ' hpost)
        exact loop 0 t0.1.1 (Nat.zero_le _) ⟨i1, tb_rf, i2, fun _ q hq => absurd hq (Nat.not_lt_zero q), i8⟩ 0 rfl)
  refine run [16] 60 0 _ _ _ _ ?_
  refine ⟨fun _ => ?_, fun q => absurd hk q⟩
  refine ⟨d - 1, 0, 0, _, _, by omega, Nat.le_refl _, Nat.le_refl _, ct_T_forget (by omega), ?_, fun _ _ h => h.elim⟩
  rintro r μ2 ⟨rfl, e1, e2, e3, e4⟩
  have hK : ∀ s, s < 8 → tg_K μ2 s = 0 := fun s hs => by unfold tg_K; rw [(e1 s hs).1]; rfl
  refine wh ((μ2, (fun _ => 0), (fun _ => 0)), 1, 0, none) ⟨⟨⟨fun s hs => ?_, Or.inl e3, Or.inl e2⟩, ⟨fun s i hs hi => ?_, fun s i j hs hi => ?_, fun q => ?_⟩, fun q => ?_⟩, fun s hs => ⟨(e1 s hs).2.1, (e1 s hs).2.2, Nat.le_refl _, Nat.zero_le _⟩, fun s hs => (hK s hs).symm, Or.inr rfl, fun q => absurd rfl q, fun q => absurd q (show ¬ (1 : Int32) = 0 by decide), fun _ => Nat.zero_le _, e4⟩ 0 rfl
  · rw [hK s hs]
    exact ⟨(e1 s hs).1, by omega⟩
  · rw [hK s hs] at hi; exact absurd hi (Nat.not_lt_zero i)
  · rw [hK s hs] at hi; exact absurd hi (Nat.not_lt_zero i)
  · unfold tg_C at q
    rw [e3] at q
    exact absurd q (by decide)
  · dsimp only at q
    rw [e2] at q
    exact absurd q (by decide)
