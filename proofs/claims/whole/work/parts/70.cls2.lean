/-! the class: productions and dependences -/
def gs_P (g : gq_G) (H S1 S2 S3 : Int32) (h : Nat) : Prop := h < gq_ns g ∧ H = nI h ∧ gq_pt g S1 ∧ gq_pt g S2 ∧ gq_pt g S3 ∧ (S1 = -1 → S2 = -1) ∧ (S2 = -1 → S3 = -1)
set_option maxHeartbeats 4000000 in
theorem ct_A_production {Γ : zk_G} {d : Nat} {H S1 S2 S3 : Int32} {μ : za_M} {g : gq_G} (hg : gq_ok g) (h : ga g μ) (hd : 6 ≤ d) : zk_Ct zt Γ zm_A_production d 1 6 [za_r 0 0, za_i H, za_i S1, za_i S2, za_i S3] μ
    (fun r μ' => ∃ k, gs_P g H S1 S2 S3 k ∧ gq_np g < 16 ∧ r = some (za_i (nI (gq_np g))) ∧ ga (gq_pr g k S1 S2 S3) μ' ∧ zq_fr (fun b _ => b ≤ 28) μ μ')
    (fun E μ' => (E = 0 ∧ ¬ (∃ k, gs_P g H S1 S2 S3 k) ∨ E = 1 ∧ (∃ k, gs_P g H S1 S2 S3 k) ∧ ¬ gq_np g < 16) ∧ μ' = μ) := by
  have hns : gq_ns g ≤ 8 := hg.1
  have hnp : gq_np g ≤ 16 := hg.2.1
  refine zX_A_production (Nat.le_of_ble_eq_true rfl) hd (fun ZZ run => ?_)
  have c96 : (∃ k, gs_P g H S1 S2 S3 k) → ZZ 96 [some (za_r 0 0), some (za_i H), some (za_i S1), some (za_i S2), some (za_i S3)] [] μ (0, 0) := by
    rintro ⟨k, hP⟩
    refine run [] 40 96 _ _ _ _ ?_
    refine ⟨fun hlt => ?_, fun hlt => ⟨rfl, Nat.le_refl _, Nat.le_refl _, Or.inr ⟨rfl, ⟨k, hP⟩, fun q => hlt ?_⟩, rfl⟩⟩
    · have hlt : μ.1 1 0 3 < 16 := hlt
      have hlt : gq_np g < 16 := Classical.byContradiction fun q => absurd hlt (zn_nl h.1.2.1 (show (16 : Int32) = nI 16 from rfl) (by omega) (by omega))
      refine ⟨d - 1, 0, 0, _, _, by omega, Nat.zero_le _, Nat.zero_le _, ct_A_forgetAnswers (by omega), ?_, fun _ _ h => h.elim⟩
      rintro r μ1 ⟨rfl, hμ1⟩
      have hμ1 : μ1 = ga_fg μ := hμ1
      subst hμ1
      have hz := ga_fgz (μ := μ) h.2.2.2.1.2 h.2.2.2.2.2
      have hC := ga_fgC h.1
      refine ⟨d - 1, 0, 0, _, _, by omega, Nat.zero_le _, Nat.zero_le _, ct_G_addProduction hg hC hlt hP.2.1 hP.1 hP.2.2.1 hP.2.2.2.1 hP.2.2.2.2.1 (by omega), ?_, fun _ _ h => h.elim⟩
      rintro r μ2 ⟨rfl, hC2, f2⟩
      exact ⟨rfl, Or.inl rfl, Nat.zero_le _, Nat.zero_le _, k, hP, hlt, rfl, ga_of_z hC2 (ga_zf hz f2), zq_tr (fr_upg ga_fgf) (fr_up10 f2)⟩
    · exact zn_lt2 h.1.2.1 (show (16 : Int32) = nI 16 from rfl) q (by decide)
  have bad : ∀ κ : Nat × Nat, κ = (0, 0) → ¬ (∃ k, gs_P g H S1 S2 S3 k) → ([] : List za_V) = [] ∧ zk_XX 1 6 (fun E μ' => (E = 0 ∧ ¬ (∃ k, gs_P g H S1 S2 S3 k) ∨ E = 1 ∧ (∃ k, gs_P g H S1 S2 S3 k) ∧ ¬ gq_np g < 16) ∧ μ' = μ) 0 μ (κ.1 + 1, κ.2 + 6) := by
    rintro κ rfl q
    exact ⟨rfl, Nat.le_refl _, Nat.le_refl _, Or.inl ⟨rfl, q⟩, rfl⟩
  have c55 : ¬ (∃ k, gs_P g H S1 S2 S3 k) → ZZ 55 [some (za_r 0 0), some (za_i H), some (za_i S1), some (za_i S2), some (za_i S3)] [] μ (0, 0) := fun q => run [] 40 55 _ _ _ _ (bad (0, 0) rfl q)
  have c86 : ¬ (∃ k, gs_P g H S1 S2 S3 k) → ZZ 86 [some (za_r 0 0), some (za_i H), some (za_i S1), some (za_i S2), some (za_i S3)] [] μ (0, 0) := fun q => run [] 40 86 _ _ _ _ (bad (0, 0) rfl q)
  have c75 : (∀ k, k < gq_ns g → H = nI k → gq_pt g S1 → gq_pt g S2 → gq_pt g S3 → (S1 = -1 → S2 = -1) → ZZ 75 [some (za_r 0 0), some (za_i H), some (za_i S1), some (za_i S2), some (za_i S3)] [] μ (0, 0)) := by
    intro k hk hH p1 p2 p3 h12
    refine run [86, 96] 40 75 _ _ _ _ ?_
    refine ⟨fun q => c96 ⟨k, hk, hH, p1, p2, p3, h12, fun z => absurd z q⟩, fun q => ⟨fun q3 => c96 ⟨k, hk, hH, p1, p2, p3, h12, fun _ => q3⟩, fun q3 => c86 ?_⟩⟩
    rintro ⟨_, _, _, _, _, _, _, z⟩
    exact q3 (z q)
  refine run [55, 65] 60 0 _ _ _ _ ?_
  refine ⟨d - 1, 0, 0, _, _, by omega, Nat.zero_le _, Nat.zero_le _, ct_G_hasSymbol h.1.1 hns (by omega), ?_, fun _ _ h => h.elim⟩
  rintro r μ1 ⟨⟨v, rfl, hv, hv1⟩, hμ1⟩
  have hμ1 := hμ1.symm
  subst hμ1
  refine ⟨fun q => ?_, fun q => bad (0, 0) rfl ?_⟩
  case refine_2 =>
    rintro ⟨k, z1, z2, _⟩
    exact absurd (q.symm.trans (hv1.mpr ⟨k, z1, z2⟩)) (by decide)
  obtain ⟨k, hk, hH⟩ := hv1.mp (zn_or01 hv q)
  refine ⟨d - 1, 0, 0, _, _, by omega, Nat.zero_le _, Nat.zero_le _, ct_G_canBePart h.1.1 hns (by omega), ?_, fun _ _ h => h.elim⟩
  rintro r μ1 ⟨⟨w1, rfl, hw1, hw1'⟩, hμ1⟩
  have hμ1 := hμ1.symm
  subst hμ1
  refine ⟨fun q => c55 ?_, fun q => ?_⟩
  · rintro ⟨_, _, _, z, _⟩
    exact absurd (q.symm.trans (hw1'.mpr z)) (by decide)
  have p1 : gq_pt g S1 := hw1'.mp (zn_or01 hw1 q)
  refine ⟨d - 1, 0, 0, _, _, by omega, Nat.zero_le _, Nat.zero_le _, ct_G_canBePart h.1.1 hns (by omega), ?_, fun _ _ h => h.elim⟩
  rintro r μ1 ⟨⟨w2, rfl, hw2, hw2'⟩, hμ1⟩
  have hμ1 := hμ1.symm
  subst hμ1
  refine ⟨fun q => c55 ?_, fun q => ?_⟩
  · rintro ⟨_, _, _, _, z, _⟩
    exact absurd (q.symm.trans (hw2'.mpr z)) (by decide)
  have p2 : gq_pt g S2 := hw2'.mp (zn_or01 hw2 q)
  refine ⟨d - 1, 0, 0, _, _, by omega, Nat.zero_le _, Nat.zero_le _, ct_G_canBePart h.1.1 hns (by omega), ?_, fun _ _ h => h.elim⟩
  rintro r μ1 ⟨⟨w3, rfl, hw3, hw3'⟩, hμ1⟩
  have hμ1 := hμ1.symm
  subst hμ1
  refine ⟨fun q => ?_, fun q => c55 ?_⟩
  case refine_2 =>
    rintro ⟨_, _, _, _, _, z, _⟩
    exact absurd (q.symm.trans (hw3'.mpr z)) (by decide)
  have p3 : gq_pt g S3 := hw3'.mp (zn_or01 hw3 q)
  refine run [75, 86] 40 65 _ _ _ _ ?_
  refine ⟨fun q1 => c75 k hk hH p1 p2 p3 (fun z => absurd z q1), fun q1 => ⟨fun q2 => c86 ?_, fun q2 => c75 k hk hH p1 p2 p3 (fun _ => q2)⟩⟩
  rintro ⟨_, _, _, _, _, _, z, _⟩
  exact q2 (z q1)
/-- a dependence that may be added -/
def gs_D (g : gq_G) (P X Y : Int32) (p x y : Nat) : Prop := (p < gq_np g ∧ P = nI p) ∧ (x < 32 ∧ X = nI x ∧ gq_df g p x) ∧ (y < 32 ∧ Y = nI y ∧ gq_gv g p y)
theorem gq_addD_eq {g : gq_G} {p x y : Nat} (hy : y < 32) (hb : bt (gq_nd g p x) y = true) : gq_addD g p x y = g := by
  have : (fun q z => if q = p ∧ z = x then gq_nd g p x ||| (1 <<< (nI y &&& 31)) else gq_nd g q z) = g.2.2.2.2 := by
    funext q z
    by_cases e : q = p ∧ z = x
    · rw [if_pos e, gq_addD_same hy hb, e.1, e.2]; rfl
    · rw [if_neg e]; rfl
  unfold gq_addD
  rw [this]
  rfl
theorem gq_C_addD {g : gq_G} {μ : za_M} (hC : gq_C g μ) {p x y : Nat} : gq_C (gq_addD g p x y) (za_u μ.1 8 p x (gq_nd g p x ||| (1 <<< (nI y &&& 31))), μ.2) := by
  generalize hm : ((za_u μ.1 8 p x (gq_nd g p x ||| (1 <<< (nI y &&& 31))), μ.2) : za_M) = μ'
  have m8 : ∀ q z, μ'.1 8 q z = if q = p ∧ z = x then gq_nd g p x ||| (1 <<< (nI y &&& 31)) else μ.1 8 q z := fun q z => by
    rw [← hm]
    dsimp only
    unfold za_u
    by_cases e : q = p ∧ z = x
    · rw [if_pos e, if_pos ⟨rfl, e.1, e.2⟩]
    · rw [if_neg e, if_neg (fun w => e w.2)]
  have mb : ∀ b j, b ≠ 8 → μ'.1 b j = μ.1 b j := fun b j n1 => by rw [← hm]; dsimp only; rw [za_u_b n1]
  refine ⟨by rw [mb 1 0 (by decide)]; exact hC.1, by rw [mb 1 0 (by decide)]; exact hC.2.1, fun s hs => by rw [mb 2 0 (by decide), mb 3 0 (by decide)]; exact hC.2.2.1 s hs, fun q hq => ?_⟩
  have hq : q < gq_np g := hq
  obtain ⟨d1, d2, d3, d4, d5⟩ := hC.2.2.2 q hq
  rw [mb 4 0 (by decide), mb 6 q (by decide), mb 9 0 (by decide), mb 10 0 (by decide)]
  refine ⟨d1, d2, fun z hz => ?_, d4, d5⟩
  rw [m8]
  show _ = (if q = p ∧ z = x then _ else gq_nd g q z)
  by_cases e : q = p ∧ z = x
  · rw [if_pos e, if_pos e]
  · rw [if_neg e, if_neg e]; exact d3 z hz
set_option maxHeartbeats 4000000 in
theorem ct_A_depend {Γ : zk_G} {d : Nat} {P X Y : Int32} {μ : za_M} {g : gq_G} (hg : gq_ok g) (h : ga g μ) (hd : 6 ≤ d) : zk_Ct zt Γ zm_A_depend d 1 6 [za_r 0 0, za_i P, za_i X, za_i Y] μ
    (fun r μ' => ∃ p x y, gs_D g P X Y p x y ∧ r = some (za_i (if bt (gq_nd g p x) y = true then 0 else 1)) ∧ ga (gq_addD g p x y) μ' ∧ zq_fr (fun b _ => b ≤ 28) μ μ')
    (fun E μ' => (E = 2 ∧ ¬ (∃ p, p < gq_np g ∧ P = nI p) ∨ E = 0 ∧ (∃ p, p < gq_np g ∧ P = nI p) ∧ ¬ ∃ p x y, gs_D g P X Y p x y) ∧ μ' = μ) := by
  have hnp : gq_np g ≤ 16 := hg.2.1
  refine zX_A_depend (Nat.le_of_ble_eq_true rfl) hd (fun ZZ run => ?_)
  refine run [] 60 0 _ _ _ _ ?_
  refine ⟨d - 1, 0, 0, _, _, by omega, Nat.zero_le _, Nat.zero_le _, ct_G_hasProduction h.1.2.1 hnp (by omega), ?_, fun _ _ h => h.elim⟩
  rintro r μ1 ⟨⟨v, rfl, hv, hv1⟩, hμ1⟩
  have hμ1 := hμ1.symm
  subst hμ1
  refine ⟨fun q => ?_, fun q => ⟨rfl, Nat.le_refl _, Nat.le_refl _, Or.inl ⟨rfl, fun z => absurd (q.symm.trans (hv1.mpr z)) (by decide)⟩, rfl⟩⟩
  obtain ⟨p, hp, hP⟩ := hv1.mp (zn_or01 hv q)
  have hpu : ∀ p', p' < gq_np g → P = nI p' → p' = p := fun p' z1 z2 => (nI_eq (by omega) (by omega)).mp (z2.symm.trans hP)
  refine ⟨d - 1, 0, 0, _, _, by omega, Nat.zero_le _, Nat.zero_le _, ct_G_defines hg h.1 hP hp (by omega), ?_, fun _ _ h => h.elim⟩
  rintro r μ1 ⟨⟨w1, rfl, hw1, hw1'⟩, hμ1⟩
  have hμ1 := hμ1.symm
  subst hμ1
  refine ⟨fun q1 => ?_, fun q1 => ⟨rfl, Nat.le_refl _, Nat.le_refl _, Or.inr ⟨rfl, ⟨p, hp, hP⟩, ?_⟩, rfl⟩⟩
  case refine_2 =>
    rintro ⟨p', x, y, ⟨z1, z2⟩, ⟨z3, z4, z5⟩, _⟩
    rw [hpu p' z1 z2] at z5
    exact absurd (q1.symm.trans (hw1'.mpr ⟨x, z3, z4, z5⟩)) (by decide)
  obtain ⟨x, hx, hX, hdf⟩ := hw1'.mp (zn_or01 hw1 q1)
  refine ⟨d - 1, 0, 0, _, _, by omega, Nat.zero_le _, Nat.zero_le _, ct_G_isGiven hg h.1 hP hp (by omega), ?_, fun _ _ h => h.elim⟩
  rintro r μ1 ⟨⟨w2, rfl, hw2, hw2'⟩, hμ1⟩
  have hμ1 := hμ1.symm
  subst hμ1
  refine ⟨fun q2 => ?_, fun q2 => ⟨rfl, Nat.le_refl _, Nat.le_refl _, Or.inr ⟨rfl, ⟨p, hp, hP⟩, ?_⟩, rfl⟩⟩
  case refine_2 =>
    rintro ⟨p', x, y, ⟨z1, z2⟩, _, ⟨z3, z4, z5⟩⟩
    rw [hpu p' z1 z2] at z5
    exact absurd (q2.symm.trans (hw2'.mpr ⟨y, z3, z4, z5⟩)) (by decide)
  obtain ⟨y, hy, hY, hgv⟩ := hw2'.mp (zn_or01 hw2 q2)
  have hD : gs_D g P X Y p x y := ⟨⟨hp, hP⟩, ⟨hx, hX, hdf⟩, ⟨hy, hY, hgv⟩⟩
  refine ⟨d - 1, 0, 0, _, _, by omega, Nat.zero_le _, Nat.zero_le _, ct_G_addDependence hg h.1 hP hp hX hx hY hy (by omega), ?_, fun _ _ h => h.elim⟩
  rintro r μ1 (⟨hb, rfl, hμ1⟩ | ⟨hb, rfl, hμ1⟩)
  · have hμ1 := hμ1.symm
    subst hμ1
    refine ⟨fun q => absurd rfl q, fun _ => ⟨rfl, Or.inr ⟨rfl, Or.inl rfl⟩, Nat.zero_le _, Nat.zero_le _, p, x, y, hD, by rw [if_pos hb], ?_, zq_rf⟩⟩
    rw [gq_addD_eq hy hb]
    exact h
  · have f1 : zq_fr (fun b _ => b ≤ 10) μ μ1 := by rw [hμ1]; exact zq_u zq_rf (show 8 ≤ 10 by decide)
    refine ⟨fun _ => ?_, fun q => absurd q (by decide)⟩
    refine ⟨d - 1, 0, 0, _, _, by omega, Nat.zero_le _, Nat.zero_le _, ct_A_forgetAnswers (by omega), ?_, fun _ _ h => h.elim⟩
    rintro r μ2 ⟨rfl, hμ2⟩
    have hμ2 : μ2 = ga_fg μ1 := hμ2
    subst hμ2
    refine ⟨rfl, Or.inr ⟨rfl, Or.inr rfl⟩, Nat.zero_le _, Nat.zero_le _, p, x, y, hD, by rw [if_neg (by rw [hb]; decide)], ga_of_z (ga_fgC ?_) (ga_fgz ?_ ?_), zq_tr (fr_up10 f1) (fr_upg ga_fgf)⟩
    · rw [hμ1]; exact gq_C_addD h.1
    · rw [f1.1 24 0 (by decide)]; exact h.2.2.2.1.2
    · rw [f1.1 24 1 (by decide)]; exact h.2.2.2.2.2
theorem ct_A_checkSymbol {Γ : zk_G} {d : Nat} {s : Int32} {μ : za_M} {g : gq_G} (hg : gq_ok g) (h : ga g μ) (hd : 6 ≤ d) : zk_Ct zt Γ zm_A_checkSymbol d 1 6 [za_r 0 0, za_i s] μ
    (fun r μ' => r = none ∧ (∃ k, k < gq_ns g ∧ s = nI k) ∧ μ' = μ) (fun E μ' => E = 2 ∧ ¬ (∃ k, k < gq_ns g ∧ s = nI k) ∧ μ' = μ) := by
  refine zX_A_checkSymbol (Nat.le_of_ble_eq_true rfl) hd (fun ZZ run => ?_)
  refine run [] 60 0 _ _ _ _ ?_
  refine ⟨d - 1, 0, 0, _, _, by omega, Nat.zero_le _, Nat.zero_le _, ct_G_hasSymbol h.1.1 hg.1 (by omega), ?_, fun _ _ h => h.elim⟩
  rintro r μ1 ⟨⟨v, rfl, hv, hv1⟩, hμ1⟩
  have hμ1 := hμ1.symm
  subst hμ1
  exact ⟨fun q => ⟨rfl, rfl, Nat.zero_le _, Nat.zero_le _, rfl, hv1.mp (zn_or01 hv q), rfl⟩, fun q => ⟨rfl, Nat.le_refl _, Nat.le_refl _, rfl, fun z => absurd (q.symm.trans (hv1.mpr z)) (by decide), rfl⟩⟩
theorem ct_A_checkAttribute {Γ : zk_G} {d k : Nat} {s a : Int32} {μ : za_M} {g : gq_G} (hg : gq_ok g) (h : ga g μ) (hs : s = nI k) (hk : k < gq_ns g) (hd : 6 ≤ d) : zk_Ct zt Γ zm_A_checkAttribute d 1 6 [za_r 0 0, za_i s, za_i a] μ
    (fun r μ' => r = none ∧ (∃ j, j < gq_at g k ∧ a = nI j) ∧ μ' = μ) (fun E μ' => E = 2 ∧ ¬ (∃ j, j < gq_at g k ∧ a = nI j) ∧ μ' = μ) := by
  have hns := hg.1
  have hat := (hg.2.2.1 k hk).1
  have hck : s.toNatClampNeg = k := zn_c hs (by omega)
  have e2 : μ.1 2 0 s.toNatClampNeg = nI (gq_at g k) := by rw [hck]; exact (h.1.2.2.1 k hk).1
  refine zX_A_checkAttribute (Nat.le_of_ble_eq_true rfl) hd (fun ZZ run => ?_)
  refine run [] 60 0 _ _ _ _ ?_
  refine ⟨fun h0 => ⟨rfl, Nat.le_refl _, Nat.le_refl _, rfl, fun ⟨j, z1, z2⟩ => absurd h0 (zn_r2 z1 (by omega) z2).1, rfl⟩, fun h0 => ⟨zn_i hs (by omega) (by decide), fun hlt => ⟨rfl, rfl, Nat.zero_le _, Nat.zero_le _, rfl, ?_, rfl⟩, fun hlt => ⟨rfl, Nat.le_refl _, Nat.le_refl _, rfl, ?_, rfl⟩⟩⟩
  · have hlt : a < μ.1 2 0 s.toNatClampNeg := hlt
    rw [e2] at hlt
    exact zn_r1 (by omega) h0 (Int32.not_le.mpr hlt)
  · rintro ⟨j, z1, z2⟩
    have hlt : ¬ a < μ.1 2 0 s.toNatClampNeg := hlt
    rw [e2] at hlt
    exact hlt (zn_lt2 z2 rfl z1 (by omega))
