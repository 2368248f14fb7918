/-! the law's callers of what throws -/
theorem vp_01 : vp_in (0 : Int32) 1 := zn_i (show (0 : Int32) = nI 0 from rfl) (by decide) (by decide)
def gw_o (μ : za_M) (x : Int64) : za_M := (μ.1, za_u μ.2 29 0 (0 : Int32).toNatClampNeg x)
theorem gw_oo {μ : za_M} {x : Int64} : (gw_o μ x).2 29 0 0 = x := by unfold gw_o; dsimp only; rw [zn_c0, za_u_same]
theorem gw_of {μ : za_M} {x : Int64} : zq_fr (fun b _ => b = 29) μ (gw_o μ x) := zq_uL zq_rf rfl
theorem gw_oa {g : gq_G} {μ : za_M} {x : Int64} (h : ga g μ) : ga g (gw_o μ x) := ga_fr h gw_of (fun b j q z => by omega)
theorem gw_f1 {μ μ1 : za_M} {x : Int64} (h : zq_fr (fun b _ => b ≤ 28) μ μ1) : zq_fr (fun b _ => b ≤ 29) μ (gw_o μ1 x) := zq_tr (zq_up h (fun b _ q => by omega)) (zq_up gw_of (fun b _ q => by omega))
theorem gw_f2 {μ μ1 : za_M} (h : zq_fr (fun b _ => b ≤ 28) μ μ1) : zq_fr (fun b _ => b ≤ 29) μ μ1 := zq_up h (fun b _ q => by omega)
theorem cw_symbol {Γ : zk_G} {d : Nat} {a w : Int32} {μ : za_M} {g : gq_G} (hg : gq_ok g) (h : ga g μ) (hd : 7 ≤ d) : zk_CtC zt Γ zm_L_symbol zh_L_symbol d 1 6 [za_r 0 0, za_i a, za_i w, za_r 29 0] μ
    (fun r μ' => ((∃ n, gs_S g a w n ∧ gq_ns g < 8 ∧ r = some (za_i 0) ∧ μ'.2 29 0 0 = (nI (gq_ns g)).toInt64 ∧ ga (gq_addS g n w) μ') ∨ (¬ (∃ n, gs_S g a w n) ∧ r = some (za_i 1) ∧ ga g μ') ∨ ((∃ n, gs_S g a w n) ∧ ¬ gq_ns g < 8 ∧ r = some (za_i 2) ∧ ga g μ')) ∧ zq_fr (fun b _ => b ≤ 29) μ μ') := by
  refine zs_L_symbol (Nat.le_of_ble_eq_true rfl) (by omega) (fun ZZ run => ?_)
  refine run [] 40 0 _ _ _ _ ?_
  refine ⟨d - 1, 1, 6, _, _, by omega, Nat.le_refl _, Nat.le_refl _, ct_A_symbol hg h (by omega), ?_, ?_⟩
  · rintro r μ1 ⟨n, h1, h2, rfl, h4, h5⟩
    exact ⟨vp_01, rfl, Or.inl rfl, Nat.le_refl _, Nat.le_refl _, Or.inl ⟨n, h1, h2, rfl, gw_oo, gw_oa h4⟩, gw_f1 h5⟩
  · rintro E μ1 ⟨h1 | h1, h2⟩
    · obtain ⟨rfl, h3⟩ := h1
      have h2 := h2.symm
      subst h2
      refine ⟨13, by decide, by decide, fun q => run [] 20 13 _ _ _ _ ?_⟩
      exact ⟨rfl, Or.inl rfl, Nat.le_refl _, Nat.le_refl _, Or.inr (Or.inl ⟨h3, rfl, h⟩), zq_rf⟩
    · obtain ⟨rfl, h3, h4⟩ := h1
      have h2 := h2.symm
      subst h2
      refine ⟨17, by decide, by decide, fun q => run [] 20 17 _ _ _ _ ?_⟩
      exact ⟨rfl, Or.inl rfl, Nat.le_refl _, Nat.le_refl _, Or.inr (Or.inr ⟨h3, h4, rfl, h⟩), zq_rf⟩
theorem cw_production {Γ : zk_G} {d : Nat} {H S1 S2 S3 : Int32} {μ : za_M} {g : gq_G} (hg : gq_ok g) (h : ga g μ) (hd : 7 ≤ d) : zk_CtC zt Γ zm_L_production zh_L_production d 1 6 [za_r 0 0, za_i H, za_i S1, za_i S2, za_i S3, za_r 29 0] μ
    (fun r μ' => ((∃ k, gs_P g H S1 S2 S3 k ∧ gq_np g < 16 ∧ r = some (za_i 0) ∧ μ'.2 29 0 0 = (nI (gq_np g)).toInt64 ∧ ga (gq_pr g k S1 S2 S3) μ') ∨ (¬ (∃ k, gs_P g H S1 S2 S3 k) ∧ r = some (za_i 1) ∧ ga g μ') ∨ ((∃ k, gs_P g H S1 S2 S3 k) ∧ ¬ gq_np g < 16 ∧ r = some (za_i 2) ∧ ga g μ')) ∧ zq_fr (fun b _ => b ≤ 29) μ μ') := by
  refine zs_L_production (Nat.le_of_ble_eq_true rfl) (by omega) (fun ZZ run => ?_)
  refine run [] 40 0 _ _ _ _ ?_
  refine ⟨d - 1, 1, 6, _, _, by omega, Nat.le_refl _, Nat.le_refl _, ct_A_production hg h (by omega), ?_, ?_⟩
  · rintro r μ1 ⟨n, h1, h2, rfl, h4, h5⟩
    exact ⟨vp_01, rfl, Or.inl rfl, Nat.le_refl _, Nat.le_refl _, Or.inl ⟨n, h1, h2, rfl, gw_oo, gw_oa h4⟩, gw_f1 h5⟩
  · rintro E μ1 ⟨h1 | h1, h2⟩
    · obtain ⟨rfl, h3⟩ := h1
      have h2 := h2.symm
      subst h2
      refine ⟨17, by decide, by decide, fun q => run [] 20 17 _ _ _ _ ?_⟩
      exact ⟨rfl, Or.inl rfl, Nat.le_refl _, Nat.le_refl _, Or.inr (Or.inl ⟨h3, rfl, h⟩), zq_rf⟩
    · obtain ⟨rfl, h3, h4⟩ := h1
      have h2 := h2.symm
      subst h2
      refine ⟨21, by decide, by decide, fun q => run [] 20 21 _ _ _ _ ?_⟩
      exact ⟨rfl, Or.inl rfl, Nat.le_refl _, Nat.le_refl _, Or.inr (Or.inr ⟨h3, h4, rfl, h⟩), zq_rf⟩
def gw_b (v : Int32) : Int64 := if v = 0 then 0 else 1
theorem cw_depend {Γ : zk_G} {d : Nat} {P X Y : Int32} {μ : za_M} {g : gq_G} (hg : gq_ok g) (h : ga g μ) (hd : 7 ≤ d) : zk_CtC zt Γ zm_L_depend zh_L_depend d 1 6 [za_r 0 0, za_i P, za_i X, za_i Y, za_r 29 0] μ
    (fun r μ' => ((∃ p x y, gs_D g P X Y p x y ∧ r = some (za_i 0) ∧ μ'.2 29 0 0 = gw_b (if bt (gq_nd g p x) y = true then 0 else 1) ∧ ga (gq_addD g p x y) μ') ∨ (¬ (∃ p, p < gq_np g ∧ P = nI p) ∧ r = some (za_i 1) ∧ ga g μ') ∨ ((∃ p, p < gq_np g ∧ P = nI p) ∧ (¬ ∃ p x y, gs_D g P X Y p x y) ∧ r = some (za_i 2) ∧ ga g μ')) ∧ zq_fr (fun b _ => b ≤ 29) μ μ') := by
  refine zs_L_depend (Nat.le_of_ble_eq_true rfl) (by omega) (fun ZZ run => ?_)
  refine run [] 40 0 _ _ _ _ ?_
  refine ⟨d - 1, 1, 6, _, _, by omega, Nat.le_refl _, Nat.le_refl _, ct_A_depend hg h (by omega), ?_, ?_⟩
  · rintro r μ1 ⟨p, x, y, h1, rfl, h4, h5⟩
    generalize hv : (if bt (gq_nd g p x) y = true then (0 : Int32) else 1) = v
    refine ⟨fun q => ⟨vp_01, rfl, Or.inl rfl, Nat.le_refl _, Nat.le_refl _, Or.inl ⟨p, x, y, h1, rfl, ?_, gw_oa h4⟩, gw_f1 h5⟩, fun q => ⟨vp_01, rfl, Or.inl rfl, Nat.le_refl _, Nat.le_refl _, Or.inl ⟨p, x, y, h1, rfl, ?_, gw_oa h4⟩, gw_f1 h5⟩⟩
    · rw [hv]; unfold gw_b; rw [if_pos q]; exact gw_oo
    · rw [hv]; unfold gw_b; rw [if_neg q]; exact gw_oo
  · rintro E μ1 ⟨h1 | h1, h2⟩
    · obtain ⟨rfl, h3⟩ := h1
      have h2 := h2.symm
      subst h2
      refine ⟨22, by decide, by decide, fun q => run [] 20 22 _ _ _ _ ?_⟩
      exact ⟨rfl, Or.inl rfl, Nat.le_refl _, Nat.le_refl _, Or.inr (Or.inl ⟨h3, rfl, h⟩), zq_rf⟩
    · obtain ⟨rfl, h3, h4⟩ := h1
      have h2 := h2.symm
      subst h2
      refine ⟨26, by decide, by decide, fun q => run [] 20 26 _ _ _ _ ?_⟩
      exact ⟨rfl, Or.inl rfl, Nat.le_refl _, Nat.le_refl _, Or.inr (Or.inr ⟨h3, h4, rfl, h⟩), zq_rf⟩
theorem cw_graphs {Γ : zk_G} {d : Nat} {s : Int32} {μ : za_M} {g : gq_G} (hg : gq_ok g) (h : ga g μ) (hd : 11 ≤ d) : zk_CtC zt Γ zm_L_graphs zh_L_graphs d 2 12 [za_r 0 0, za_i s, za_r 29 0] μ
    (fun r μ' => ((∃ k c, k < gq_ns g ∧ s = nI k ∧ ¬ gr_G g ∧ gs_cnt g k c ∧ r = some (za_i 0) ∧ μ'.2 29 0 0 = (nI c).toInt64) ∨ (¬ (∃ k, k < gq_ns g ∧ s = nI k) ∧ r = some (za_i 1)) ∨ ((∃ k, k < gq_ns g ∧ s = nI k) ∧ gr_G g ∧ r = some (za_i 2))) ∧ ga g μ' ∧ zq_fr (fun b _ => b ≤ 29) μ μ') := by
  refine zs_L_graphs (Nat.le_of_ble_eq_true rfl) (by omega) (fun ZZ run => ?_)
  refine run [] 40 0 _ _ _ _ ?_
  refine ⟨d - 1, 2, 12, _, _, by omega, Nat.le_refl _, Nat.le_refl _, ct_A_graphs hg h (by omega), ?_, ?_⟩
  · rintro r μ1 ⟨⟨k, c, h1, h2, h3, h4, rfl⟩, h5, h6⟩
    exact ⟨vp_01, rfl, Or.inl rfl, Nat.le_refl _, Nat.le_refl _, Or.inl ⟨k, c, h1, h2, h3, h4, rfl, gw_oo⟩, gw_oa h5, gw_f1 h6⟩
  · rintro E μ1 ⟨h1 | h1, h5, h6⟩
    · obtain ⟨rfl, h3⟩ := h1
      refine ⟨12, by decide, by decide, fun q => run [] 20 12 _ _ _ _ ?_⟩
      exact ⟨rfl, Or.inl rfl, Nat.le_refl _, Nat.le_refl _, Or.inr (Or.inl ⟨h3, rfl⟩), h5, gw_f2 h6⟩
    · obtain ⟨rfl, h3, h4⟩ := h1
      refine ⟨15, by decide, by decide, fun q => run [] 20 15 _ _ _ _ ?_⟩
      exact ⟨rfl, Or.inl rfl, Nat.le_refl _, Nat.le_refl _, Or.inr (Or.inr ⟨h3, h4, rfl⟩), h5, gw_f2 h6⟩
theorem cw_circular {Γ : zk_G} {d : Nat} {μ : za_M} {g : gq_G} (hg : gq_ok g) (h : ga g μ) (hd : 11 ≤ d) : zk_CtC zt Γ zm_L_circular zh_L_circular d 1 6 [za_r 0 0, za_r 29 0] μ
    (fun r μ' => ((¬ gr_G g ∧ ∃ v : Int32, (v = 0 ∨ v = 1) ∧ (v = 1 ↔ gr_C g) ∧ r = some (za_i 0) ∧ μ'.2 29 0 0 = gw_b v) ∨ (gr_G g ∧ r = some (za_i 1))) ∧ ga g μ' ∧ zq_fr (fun b _ => b ≤ 29) μ μ') := by
  refine zs_L_circular (Nat.le_of_ble_eq_true rfl) (by omega) (fun ZZ run => ?_)
  refine run [] 40 0 _ _ _ _ ?_
  refine ⟨d - 1, 1, 6, _, _, by omega, Nat.le_refl _, Nat.le_refl _, ct_A_circular hg h (by omega), ?_, ?_⟩
  · rintro r μ1 ⟨⟨h1, v, rfl, hv, hv1⟩, h5, h6⟩
    refine ⟨fun q => ⟨vp_01, rfl, Or.inl rfl, Nat.le_refl _, Nat.le_refl _, Or.inl ⟨h1, v, hv, hv1, rfl, ?_⟩, gw_oa h5, gw_f1 h6⟩, fun q => ⟨vp_01, rfl, Or.inl rfl, Nat.le_refl _, Nat.le_refl _, Or.inl ⟨h1, v, hv, hv1, rfl, ?_⟩, gw_oa h5, gw_f1 h6⟩⟩
    · unfold gw_b; rw [if_pos q]; exact gw_oo
    · unfold gw_b; rw [if_neg q]; exact gw_oo
  · rintro E μ1 ⟨⟨rfl, h1⟩, h5, h6⟩
    refine ⟨18, by decide, by decide, fun q => run [] 20 18 _ _ _ _ ?_⟩
    exact ⟨rfl, Or.inl rfl, Nat.le_refl _, Nat.le_refl _, Or.inr ⟨h1, rfl⟩, h5, gw_f2 h6⟩
theorem cw_relation {Γ : zk_G} {d : Nat} {s a l : Int32} {fa : Bool} {μ : za_M} {g : gq_G} (hg : gq_ok g) (h : ga g μ) (hl : l = if fa = true then 1 else 0) (hd : 8 ≤ d) : zk_CtC zt Γ zm_L_relation zh_L_relation d 2 12 [za_r 0 0, za_i s, za_i a, za_i l, za_r 29 0] μ
    (fun r μ' => ((∃ k j v, gs_at g s a k j ∧ gs_rel g k j fa v ∧ r = some (za_i 0) ∧ μ'.2 29 0 0 = v.toInt64) ∨ ((¬ ∃ k j, gs_at g s a k j) ∧ r = some (za_i 1))) ∧ ga g μ' ∧ zq_fr (fun b _ => b ≤ 29) μ μ') := by
  refine zs_L_relation (Nat.le_of_ble_eq_true rfl) (by omega) (fun ZZ run => ?_)
  refine run [] 40 0 _ _ _ _ ?_
  refine ⟨d - 1, 2, 12, _, _, by omega, Nat.le_refl _, Nat.le_refl _, ct_A_relation hg h hl (by omega), ?_, ?_⟩
  · rintro r μ1 ⟨⟨k, j, v, h1, h2, rfl⟩, h5, h6⟩
    exact ⟨vp_01, rfl, Or.inl rfl, Nat.le_refl _, Nat.le_refl _, Or.inl ⟨k, j, v, h1, h2, rfl, gw_oo⟩, gw_oa h5, gw_f1 h6⟩
  · rintro E μ1 ⟨⟨rfl, h1⟩, h2⟩
    have h2 := h2.symm
    subst h2
    refine ⟨15, by decide, by decide, fun q => run [] 20 15 _ _ _ _ ?_⟩
    exact ⟨rfl, Or.inl rfl, Nat.le_refl _, Nat.le_refl _, Or.inr ⟨h1, rfl⟩, h, zq_rf⟩
theorem cw_pass {Γ : zk_G} {d : Nat} {s a l : Int32} {tb : Bool} {μ : za_M} {g : gq_G} (hg : gq_ok g) (h : ga g μ) (hl : l = if tb = true then 1 else 0) (hd : 8 ≤ d) : zk_CtC zt Γ zm_L_pass zh_L_pass d 2 12 [za_r 0 0, za_i s, za_i a, za_i l, za_r 29 0] μ
    (fun r μ' => ((∃ k j v, gs_at g s a k j ∧ gs_pass g tb k j v ∧ r = some (za_i 0) ∧ μ'.2 29 0 0 = v.toInt64) ∨ ((¬ ∃ k j, gs_at g s a k j) ∧ r = some (za_i 1))) ∧ ga g μ' ∧ zq_fr (fun b _ => b ≤ 29) μ μ') := by
  refine zs_L_pass (Nat.le_of_ble_eq_true rfl) (by omega) (fun ZZ run => ?_)
  refine run [] 40 0 _ _ _ _ ?_
  refine ⟨d - 1, 2, 12, _, _, by omega, Nat.le_refl _, Nat.le_refl _, ct_A_pass hg h hl (by omega), ?_, ?_⟩
  · rintro r μ1 ⟨⟨k, j, v, h1, h2, rfl⟩, h5, h6⟩
    exact ⟨vp_01, rfl, Or.inl rfl, Nat.le_refl _, Nat.le_refl _, Or.inl ⟨k, j, v, h1, h2, rfl, gw_oo⟩, gw_oa h5, gw_f1 h6⟩
  · rintro E μ1 ⟨⟨rfl, h1⟩, h2⟩
    have h2 := h2.symm
    subst h2
    refine ⟨15, by decide, by decide, fun q => run [] 20 15 _ _ _ _ ?_⟩
    exact ⟨rfl, Or.inl rfl, Nat.le_refl _, Nat.le_refl _, Or.inr ⟨h1, rfl⟩, h, zq_rf⟩
