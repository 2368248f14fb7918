/-- what find leaves -/
def cl_fin (g : gq_G) (μ : za_M) : Prop := (∀ i, lf_V 520 (cl_x μ) i ↔ un_X g i) ∧ (∀ i, lf_V 512 (cl_y μ) i ↔ un_Y g i) ∧ cl_01 μ ∧ cl_ci g (fun _ => un_no) (gq_np g) (μ.1 20 0 1) ∧ cl_ci g (un_Q (un_Y g)) (gq_np g) (μ.1 20 0 2)
/-- a loop by a measure that also counts -/
theorem zn_1000 {k : Nat} {y : Int32} (hy : y = nI k) (h : k ≤ 900) : ¬ (1000 : Int32) ≤ y := zn_ge hy (show (1000 : Int32) = nI 1000 from rfl) (by omega) (by decide)
set_option maxHeartbeats 8000000 in
theorem ct_R_find {Γ : zk_G} {d : Nat} {μ : za_M} {g : gq_G} (hg : gq_ok g) (hC : gq_C g μ) (hk : μ.1 20 0 0 = 0 ∨ μ.1 20 0 0 = 1 ∧ cl_fin g μ) (hd : 5 ≤ d) : zk_Ct zt Γ zm_R_find d 0 0 [za_r 20 0, za_r 1 0] μ
    (fun r μ' => r = none ∧ cl_fin g μ' ∧ μ'.1 20 0 0 = 1 ∧ zq_fr cl_rS μ μ') (fun _ _ => False) := by
  refine zs_R_find (Nat.le_of_ble_eq_true rfl) (by omega) (fun ZZ run => ?_)
  rcases hk with hk | ⟨hk, hfin⟩
  case inr =>
    refine run [] 20 0 _ _ _ _ ?_
    refine ⟨fun q => absurd (hk.symm.trans q) (by decide), fun _ => ?_⟩
    exact ⟨rfl, rfl, Nat.le_refl _, Nat.le_refl _, rfl, hfin, hk, zq_rf⟩
  -- from above
  have wh2 := zn_wh (σ := za_M × Int32 × Nat)
    (P := fun t => ∀ y : Int32, y = nI t.2.2 → ZZ 43 [some (za_r 20 0), some (za_r 1 0), some (za_i t.2.1), some (za_i y)] [] t.1 (0, 0))
    (I := fun t => (∀ i, lf_V 520 (cl_x t.1) i ↔ un_X g i) ∧ cl_01 t.1 ∧ lf_H (un_W g) (3 * gq_np g) 512 (cl_y t.1) t.2.1 ∧ (t.2.2 + ct_n (cl_y t.1) 512 ≤ 512 ∨ t.2.1 = 0) ∧ zq_fr cl_rS μ t.1)
    (fun t => 2 * ct_n (cl_y t.1) 512 + t.2.1.toNatClampNeg)
    (fun t h ih y hy => by
      obtain ⟨i1, i2, i3, i4, i5⟩ := h
      have hC1 := cl_rg hC i5
      refine run [43] 80 43 _ _ _ _ ?_
      refine ⟨fun hq => ?_, fun hq => ⟨fun hz => ?_, fun _ => ?_⟩⟩
      · refine ⟨d - 1, 0, 0, _, _, by omega, Nat.le_refl _, Nat.le_refl _, ct_R_lookForCircles hg hC1 i2 i1 (i3.2.2 hq) (by omega), ?_, fun _ _ h => h.elim⟩
        rintro r μ2 ⟨rfl, e1, e2, e3, e4, e5, e6, e7⟩
        refine ⟨Or.inr rfl, rfl, rfl, Nat.le_refl _, Nat.le_refl _, rfl, ⟨?_, ?_, ?_, ?_, ?_⟩, ?_, zq_u (zq_tr i5 e7) (Or.inr ⟨by decide, rfl⟩)⟩
        · rw [cl_xc (μ := t.1) (μ' := (za_u μ2.1 20 0 0 1, μ2.2)) (by dsimp only; rw [za_u_b (show (21 : Nat) ≠ 20 by decide), e4]) e5]
          exact i1
        · rw [cl_yc (μ := t.1) (μ' := (za_u μ2.1 20 0 0 1, μ2.2)) e6]
          exact i3.2.2 hq
        · intro s hs
          dsimp only
          rw [za_u_b (show (21 : Nat) ≠ 20 by decide), e4]
          exact i2 s hs
        · dsimp only
          rw [za_u_i (show (1 : Nat) ≠ 0 by decide)]
          exact e1
        · dsimp only
          rw [za_u_i (show (2 : Nat) ≠ 0 by decide)]
          exact e2
        · dsimp only
          rw [za_u_same]
      · exact absurd hz (zn_1000 hy (by have := i4.resolve_right hq; omega))
      · refine ⟨d - 1, 0, 0, _, _, by omega, Nat.le_refl _, Nat.le_refl _, ct_R_growFromAbove hg hC1 i2 i1 i3.2.1 (by omega), ?_, fun _ _ h => h.elim⟩
        rintro r μ2 ⟨⟨v, rfl, hI⟩, e2, e3, e4, e5⟩
        refine ih (μ2, v, t.2.2 + 1) ⟨?_, ?_, lf_IH hI, ?_, zq_tr i5 e5⟩ (lf_Im hI (zn_or01 i3.1 hq)) _ (zn_s hy)
        · rw [cl_xc (μ := t.1) e3 e4]
          exact i1
        · intro s hs
          dsimp only
          rw [e3]
          exact i2 s hs
        · rcases hI.1 with e | e
          · exact Or.inr e
          · refine Or.inl ?_
            have := hI.2.2.2.1 e
            have := i4.resolve_right hq
            dsimp only
            omega)
  -- upwards
  have wh1 := zn_wh (σ := za_M × Int32 × Nat)
    (P := fun t => ∀ y : Int32, y = nI t.2.2 → ZZ 16 [some (za_r 20 0), some (za_r 1 0), some (za_i t.2.1), some (za_i y)] [] t.1 (0, 0))
    (I := fun t => (∀ i, ¬ lf_V 512 (cl_y t.1) i) ∧ cl_01 t.1 ∧ lf_H (un_F g) (gq_np g) 520 (cl_x t.1) t.2.1 ∧ (t.2.2 + ct_n (cl_x t.1) 520 ≤ 520 ∨ t.2.1 = 0) ∧ zq_fr cl_rS μ t.1)
    (fun t => 2 * ct_n (cl_x t.1) 520 + t.2.1.toNatClampNeg)
    (fun t h ih y hy => by
      obtain ⟨i1, i2, i3, i4, i5⟩ := h
      have hC1 := cl_rg hC i5
      refine run [16, 43] 80 16 _ _ _ _ ?_
      refine ⟨fun hq => ?_, fun hq => ⟨fun hz => ?_, fun _ => ?_⟩⟩
      · refine wh2 (t.1, 1, 0) ⟨i3.2.2 hq, i2, ⟨Or.inr rfl, fun i q => absurd q (i1 i), fun q => absurd q (show ¬ (1 : Int32) = 0 by decide)⟩, Or.inl ?_, i5⟩ 0 rfl
        have := ct_n_max (cl_y t.1) 512
        dsimp only
        omega
      · exact absurd hz (zn_1000 hy (by have := i4.resolve_right hq; omega))
      · refine ⟨d - 1, 0, 0, _, _, by omega, Nat.le_refl _, Nat.le_refl _, ct_R_growUpwards hg hC1 i2 i3.2.1 (by omega), ?_, fun _ _ h => h.elim⟩
        rintro r μ2 ⟨⟨v, rfl, hI⟩, e2, e3, e4, e5⟩
        refine ih (μ2, v, t.2.2 + 1) ⟨?_, e2, lf_IH hI, ?_, zq_tr i5 e5⟩ (lf_Im hI (zn_or01 i3.1 hq)) _ (zn_s hy)
        · rw [cl_yc (μ := t.1) e4]
          exact i1
        · rcases hI.1 with e | e
          · exact Or.inr e
          · refine Or.inl ?_
            have := hI.2.2.2.1 e
            have := i4.resolve_right hq
            dsimp only
            omega)
  refine run [16] 80 0 _ _ _ _ ?_
  refine ⟨fun _ => ?_, fun q => absurd hk q⟩
  refine ⟨d - 1, 0, 0, _, _, by omega, Nat.le_refl _, Nat.le_refl _, ct_R_forget (by omega), ?_, fun _ _ h => h.elim⟩
  rintro r μ2 ⟨rfl, e1, e2⟩
  refine wh1 (μ2, 1, 0) ⟨fun i q => ?_, fun s hs => Or.inl (e1 s hs).1, ⟨Or.inr rfl, fun i q => ?_, fun q => absurd q (show ¬ (1 : Int32) = 0 by decide)⟩, Or.inl ?_, zq_up e2 (fun b j q => Or.inr ⟨by omega, q.2⟩)⟩ 0 rfl
  · unfold lf_V cl_y at q
    rw [(e1 _ (by omega)).2.2, bl_0] at q
    cases q.2
  · exfalso
    unfold lf_V cl_x at q
    by_cases c : i < 8
    · rw [if_pos c, (e1 i c).1] at q
      exact absurd q.2 (by decide)
    · rw [if_neg c, (e1 _ (by omega)).2.1, bl_0] at q
      cases q.2
  · have := ct_n_max (cl_x μ2) 520
    dsimp only
    omega
