/-! the class: Relations, its small methods -/
theorem za_ix0 (n i : Nat) : za_ix 0 n i = i := rfl
theorem zn_lt2 {k n : Nat} {x y : Int32} (hx : x = nI k) (hy : y = nI n) (h : k < n) (hn : n < 2 ^ 31) : x < y := by rw [hx, hy]; exact Int32.not_le.mp (nI_ge h hn)
theorem zn_nl {k n : Nat} {x y : Int32} (hx : x = nI k) (hy : y = nI n) (h : n ≤ k) (hn : k < 2 ^ 31) : ¬ x < y := by rw [hx, hy]; exact Int32.not_lt.mpr (nI_le h hn)
theorem ct_B_lay' {Γ : zk_G} {d J o : Nat} {x : Int32} {rel : Int64} {μ : za_M} (hx : x = nI o) (hd : 2 ≤ d) (ho : o < 4) : zk_Ct zt Γ zm_B_lay d 0 0 [za_r 18 J, za_i x, za_l rel] μ
    (fun r μ' => r = none ∧ (∀ i, i < 32 → μ'.1 19 J i = bd_lay (μ.1 19 J) o rel i) ∧ zq_fr (fun b j => b = 19 ∧ j = J) μ μ') (fun _ _ => False) := by
  subst hx
  exact ct_B_lay hd ho
theorem ct_B_join' {Γ : zk_G} {d J o : Nat} {x : Int32} {μ : za_M} (hx : x = nI o) (hd : 2 ≤ d) (ho : o < 4) : zk_Ct zt Γ zm_B_join d 0 0 [za_r 18 J, za_i x] μ
    (fun r μ' => r = none ∧ (∀ i, i < 32 → μ'.1 19 J i = bd_jk (μ.1 19 J) o 6 i) ∧ μ'.1 18 J 1 = bd_ck (μ.1 19 J) o (μ.1 18 J 1) 6 ∧ zq_fr (fun b j => (b = 18 ∨ b = 19) ∧ j = J) μ μ') (fun _ _ => False) := by
  subst hx
  exact ct_B_join hd ho
theorem ct_B_relationAt' {Γ : zk_G} {d J o : Nat} {x : Int32} {μ : za_M} (hx : x = nI o) (hd : 1 ≤ d) (ho : o < 4) : zk_Ct zt Γ zm_B_relationAt d 0 0 [za_r 18 J, za_i x] μ
    (fun r μ' => r = some (za_l (bd_rk (μ.1 19 J) o 6)) ∧ μ' = μ) (fun _ _ => False) := by
  subst hx
  exact ct_B_relationAt hd ho
/-- the grammar, read -/
theorem gq_Cp {g : gq_G} {μ : za_M} (hg : gq_ok g) (hC : gq_C g μ) {p : Nat} {x : Int32} (hx : x = nI p) (hp : p < gq_np g) : p < 16 ∧ vp_in x 16 ∧ x.toNatClampNeg = p ∧ μ.1 4 0 x.toNatClampNeg = nI (gq_m g p) ∧ (∀ o, o ≤ gq_m g p → μ.1 6 x.toNatClampNeg o = nI (gq_sy g p o)) ∧ (∀ i, i < 32 → μ.1 8 x.toNatClampNeg i = gq_nd g p i) := by
  have h16 : p < 16 := Nat.lt_of_lt_of_le hp hg.2.1
  have e : x.toNatClampNeg = p := zn_c hx (by omega)
  rw [e]
  exact ⟨h16, zn_i hx h16 (by decide), rfl, (hC.2.2.2 p hp).1, (hC.2.2.2 p hp).2.1, (hC.2.2.2 p hp).2.2.1⟩
set_option maxHeartbeats 4000000 in
theorem ct_R_forget {Γ : zk_G} {d : Nat} {μ : za_M} (hd : 1 ≤ d) : zk_Ct zt Γ zm_R_forget d 0 0 [za_r 20 0] μ (fun r μ' => r = none ∧ (∀ s, s < 8 → μ'.1 21 0 s = 0 ∧ μ'.2 22 0 s = 0 ∧ μ'.2 23 0 s = 0) ∧ zq_fr (fun b j => (b = 21 ∨ b = 22 ∨ b = 23) ∧ j = 0) μ μ') (fun _ _ => False) := by
  refine zs_R_forget (Nat.le_of_ble_eq_true rfl) hd (fun ZZ run => ?_)
  have loop := zn_for (σ := za_M) (N := 8)
    (P := fun k μ1 => ∀ y : Int32, y = nI k → ZZ 2 [some (za_r 20 0), some (za_i y)] [] μ1 (0, 0))
    (I := fun k μ1 => (∀ s, s < k → μ1.1 21 0 s = 0 ∧ μ1.2 22 0 s = 0 ∧ μ1.2 23 0 s = 0) ∧ zq_fr (fun b j => (b = 21 ∨ b = 22 ∨ b = 23) ∧ j = 0) μ μ1)
    (fun μ1 h y hy => by
      refine run [2] 40 2 _ _ _ _ ?_
      refine ⟨fun _ => ?_, fun q => absurd (by rw [hy]; exact nI_le (Nat.le_refl 8) (by decide)) q⟩
      exact ⟨rfl, rfl, Nat.le_refl _, Nat.le_refl _, rfl, h⟩)
    (fun k μ1 hk h ih y hy => by
      have hck : y.toNatClampNeg = k := zn_c hy (by omega)
      have hb : vp_in y 8 := zn_i hy hk (by decide)
      refine run [2] 40 2 _ _ _ _ ?_
      refine ⟨fun q => absurd q (zn_ge hy rfl hk (by decide)), fun _ => ⟨hb, Or.inl rfl, hb, hb, ?_⟩⟩
      refine ih _ ⟨fun i hi => ?_, zq_uL (zq_uL (zq_u h.2 ⟨Or.inl rfl, rfl⟩) ⟨Or.inr (Or.inl rfl), rfl⟩) ⟨Or.inr (Or.inr rfl), rfl⟩⟩ _ (zn_s hy)
      dsimp only
      rw [hck, za_u_b (show (22 : Nat) ≠ 23 by decide)]
      by_cases e : i = k
      · subst e
        rw [za_u_same, za_u_same, za_u_same]
        exact ⟨rfl, rfl, rfl⟩
      · rw [za_u_i e, za_u_i e, za_u_i e, za_u_b (show (23 : Nat) ≠ 22 by decide)]
        exact h.1 i (by omega))
  refine run [2] 40 0 _ _ _ _ ?_
  exact loop 0 μ (Nat.zero_le _) ⟨fun i hi => absurd hi (Nat.not_lt_zero i), zq_rf⟩ 0 rfl
set_option maxHeartbeats 4000000 in
theorem ct_R_allPartsExist {Γ : zk_G} {d p : Nat} {x : Int32} {μ : za_M} {g : gq_G} (hg : gq_ok g) (hC : gq_C g μ) (hx : x = nI p) (hp : p < gq_np g) (hd : 1 ≤ d) : zk_Ct zt Γ zm_R_allPartsExist d 0 0 [za_r 20 0, za_r 1 0, za_i x] μ (fun r μ' => (∃ v : Int32, r = some (za_i v) ∧ (v = 0 ∨ v = 1) ∧ (v = 1 ↔ ∀ o, 1 ≤ o → o ≤ gq_m g p → ¬ μ.1 21 0 (gq_sy g p o) = 0)) ∧ μ' = μ) (fun _ _ => False) := by
  obtain ⟨c1, c2, c3, c4, c5, c6⟩ := gq_Cp hg hC hx hp
  have hm := (hg.2.2.2.2.1 p hp).1
  refine zs_R_allPartsExist (Nat.le_of_ble_eq_true rfl) hd (fun ZZ run => ?_)
  have loop := zn_for (σ := Unit) (N := gq_m g p + 1)
    (P := fun k _ => 1 ≤ k → ∀ y : Int32, y = nI k → ZZ 2 [some (za_r 20 0), some (za_r 1 0), some (za_i x), some (za_i y)] [] μ (0, 0))
    (I := fun k _ => ∀ o, 1 ≤ o → o < k → ¬ μ.1 21 0 (gq_sy g p o) = 0)
    (fun _ h h1 y hy => by
      refine run [2] 40 2 _ _ _ _ ?_
      refine ⟨c2, fun _ => ?_, fun q => absurd (zn_lt2 c4 hy (Nat.lt_succ_self _) (by omega)) q⟩
      exact ⟨rfl, Or.inr ⟨rfl, Or.inr rfl⟩, Nat.le_refl _, Nat.le_refl _, ⟨1, rfl, Or.inr rfl, fun _ o a b => h o a (by omega), fun _ => rfl⟩, rfl⟩)
    (fun k _ hk h ih h1 y hy => by
      have hle : k ≤ gq_m g p := by omega
      have hs8 := gq_sy8 hg hp hle
      have hcy : y.toNatClampNeg = k := zn_c hy (by omega)
      have e6 : μ.1 6 x.toNatClampNeg y.toNatClampNeg = nI (gq_sy g p k) := by rw [hcy]; exact c5 k hle
      refine run [2] 40 2 _ _ _ _ ?_
      refine ⟨c2, fun q => absurd q (zn_nl c4 hy hle (by omega)), fun _ => ⟨c2, zn_i hy (by omega) (by decide), zn_i e6 hs8 (by decide), fun hq => ?_, fun hq => ?_⟩⟩
      · rw [za_ix0, zn_c e6 (by omega)] at hq
        refine ih () (fun o a b => ?_) (by omega) _ (zn_s hy)
        by_cases e : o = k
        · subst e; exact hq
        · exact h o a (by omega)
      · rw [za_ix0, zn_c e6 (by omega)] at hq
        exact ⟨rfl, Or.inr ⟨rfl, Or.inl rfl⟩, Nat.le_refl _, Nat.le_refl _, ⟨0, rfl, Or.inl rfl, fun q => absurd q (by decide), fun q => absurd hq (q k h1 hle)⟩, rfl⟩)
  refine run [2] 40 0 _ _ _ _ ?_
  exact loop 1 () (by omega) (fun o a b => by omega) (Nat.le_refl 1) 1 rfl
/-- what boards may change -/
def bd_fS (J : Nat) (b j : Nat) : Prop := (b = 18 ∨ b = 19) ∧ j = J
/-- steps and places once the parts below n are joined -/
def bp_S (S0 : Nat → Prop) (g : gq_G) (p but n v : Nat) : Prop := S0 v ∨ (1 ≤ v / 8 ∧ v / 8 < n ∧ v / 8 ≤ gq_m g p ∧ v / 8 ≠ but ∧ v % 8 < 6)
def bp_E (E0 : Nat → Nat → Prop) (g : gq_G) (p but n : Nat) (U : Nat → Nat → Nat → Prop) (x y : Nat) : Prop := E0 x y ∨ (1 ≤ x / 8 ∧ x / 8 < n ∧ x / 8 ≤ gq_m g p ∧ x / 8 ≠ but ∧ y / 8 = x / 8 ∧ U (gq_sy g p (x / 8)) (x % 8) (y % 8))
def cl_U (μ : za_M) (s a b : Nat) : Prop := a < 6 ∧ bl (μ.2 22 0 s) (8 * a + b) = true
def cl_V (μ : za_M) (s a b : Nat) : Prop := a < 6 ∧ bl (μ.2 23 0 s) (8 * a + b) = true
set_option maxHeartbeats 4000000 in
theorem ct_R_joinParts {Γ : zk_G} {d p but : Nat} {x z : Int32} {μ : za_M} {g : gq_G} {S0 : Nat → Prop} {E0 : Nat → Nat → Prop} (hg : gq_ok g) (hC : gq_C g μ) (hx : x = nI p) (hz : z = nI but) (hb4 : but < 4) (hp : p < gq_np g) (hB : bd_S μ 4 S0 E0) (hS0 : ∀ v, S0 v → v < 8) (hd : 3 ≤ d) : zk_Ct zt Γ zm_R_joinParts d 0 0 [za_r 20 0, za_r 1 0, za_i x, za_i z] μ (fun r μ' => r = none ∧ bd_S μ' 4 (bp_S S0 g p but 4) (bp_E E0 g p but 4 (cl_U μ)) ∧ zq_fr (bd_fS 4) μ μ') (fun _ _ => False) := by
  obtain ⟨c1, c2, c3, c4, c5, c6⟩ := gq_Cp hg hC hx hp
  have hm := (hg.2.2.2.2.1 p hp).1
  refine zs_R_joinParts (Nat.le_of_ble_eq_true rfl) (by omega) (fun ZZ run => ?_)
  have loop := zn_for (σ := za_M) (N := gq_m g p + 1)
    (P := fun k μ1 => 1 ≤ k → ∀ y : Int32, y = nI k → ZZ 3 [some (za_r 20 0), some (za_r 1 0), some (za_i x), some (za_i z), some (za_i y)] [] μ1 (0, 0))
    (I := fun k μ1 => bd_S μ1 4 (bp_S S0 g p but k) (bp_E E0 g p but k (cl_U μ)) ∧ zq_fr (bd_fS 4) μ μ1)
    (fun μ1 h h1 y hy => by
      have e4 : μ1.1 4 0 = μ.1 4 0 := h.2.1 4 0 (by unfold bd_fS; decide)
      refine run [3] 60 3 _ _ _ _ ?_
      refine ⟨c2, fun _ => ?_, fun q => absurd (zn_lt2 (by rw [e4]; exact c4) hy (Nat.lt_succ_self _) (by omega)) q⟩
      refine ⟨rfl, rfl, Nat.le_refl _, Nat.le_refl _, rfl, bd_Sc h.1 (fun v => ?_) (fun a b => ?_), h.2⟩
      · unfold bp_S
        exact ⟨fun q => q.elim Or.inl (fun q => Or.inr (by omega)), fun q => q.elim Or.inl (fun q => Or.inr (by omega))⟩
      · unfold bp_E
        exact ⟨fun q => q.elim Or.inl (fun ⟨q1, q2, q3, q4⟩ => Or.inr ⟨q1, by omega, q3, q4⟩), fun q => q.elim Or.inl (fun ⟨q1, q2, q3, q4⟩ => Or.inr ⟨q1, by omega, q3, q4⟩)⟩)
    (fun k μ1 hk h ih h1 y hy => by
      have hle : k ≤ gq_m g p := by omega
      have hs8 := gq_sy8 hg hp hle
      have hcy : y.toNatClampNeg = k := zn_c hy (by omega)
      have e4 : μ1.1 4 0 = μ.1 4 0 := h.2.1 4 0 (by unfold bd_fS; decide)
      have e6 : μ1.1 6 x.toNatClampNeg y.toNatClampNeg = nI (gq_sy g p k) := by rw [hcy, h.2.1 6 _ (fun q => by rcases q.1 with q | q <;> exact absurd q (by decide))]; exact c5 k hle
      have e22 : μ1.2 22 0 = μ.2 22 0 := h.2.2 22 0 (by unfold bd_fS; decide)
      refine run [3] 60 3 _ _ _ _ ?_
      refine ⟨c2, fun q => absurd q (zn_nl (by rw [e4]; exact c4) hy hle (by omega)), fun _ => ⟨fun hq => ?_, fun hq => ?_⟩⟩
      · have hkb : k = but := by
          rw [hy, hz, nI_eq (by omega) (by omega)] at hq
          exact hq
        refine ih μ1 ⟨bd_Sc h.1 (fun v => ?_) (fun a b => ?_), h.2⟩ (by omega) _ (zn_s hy)
        · unfold bp_S
          exact ⟨fun q => q.elim Or.inl (fun q => Or.inr (by omega)), fun q => q.elim Or.inl (fun q => Or.inr (by omega))⟩
        · unfold bp_E
          exact ⟨fun q => q.elim Or.inl (fun ⟨q1, q2, q3, q4⟩ => Or.inr ⟨q1, by omega, q3, q4⟩), fun q => q.elim Or.inl (fun ⟨q1, q2, q3, q4, q5⟩ => Or.inr ⟨q1, by omega, q3, q4, q5⟩)⟩
      · have hkb : k ≠ but := fun e => hq (by rw [hy, hz, e])
        refine ⟨c2, zn_i hy (by omega) (by decide), zn_i e6 hs8 (by decide), ?_⟩
        refine ⟨d - 1, 0, 0, _, _, by omega, Nat.le_refl _, Nat.le_refl _, ct_B_lay' hy (by omega) (by omega), ?_, fun _ _ h => h.elim⟩
        rintro r μ2 ⟨rfl, l1, l2⟩
        have l1 : ∀ i, i < 32 → μ2.1 19 4 i = bd_lay (μ1.1 19 4) k (μ.2 22 0 (gq_sy g p k)) i := fun i hi => by
          rw [l1 i hi]
          show bd_lay _ _ (μ1.2 22 0 (μ1.1 6 x.toNatClampNeg y.toNatClampNeg).toNatClampNeg) i = _
          rw [zn_c e6 (by omega), e22]
        refine ⟨d - 1, 0, 0, _, _, by omega, Nat.le_refl _, Nat.le_refl _, ct_B_join' hy (by omega) (by omega), ?_, fun _ _ h => h.elim⟩
        rintro r μ3 ⟨rfl, j1, j2, j3⟩
        refine ih μ3 ⟨bd_Sc (bd_SJ (by omega) h.1 (fun v q => ?_) l1 (by rw [l2.1 18 4 (by decide)]) j1 j2) (fun v => ?_) (fun a b => ?_), zq_tr (zq_tr h.2 (zq_up l2 (fun _ _ q => ⟨Or.inr q.1, q.2⟩))) (zq_up j3 (fun _ _ q => q))⟩ (by omega) _ (zn_s hy)
        · rcases q with q | q
          · have := hS0 v q; omega
          · omega
        · unfold bp_S
          constructor
          · rintro ((q | q) | q)
            · exact Or.inl q
            · exact Or.inr (by omega)
            · exact Or.inr (by omega)
          · rintro (q | q)
            · exact Or.inl (Or.inl q)
            · by_cases e : v / 8 = k
              · exact Or.inr (by omega)
              · exact Or.inl (Or.inr (by omega))
        · unfold bp_E bd_F cl_U
          constructor
          · rintro ((q | ⟨q1, q2, q3, q4⟩) | ⟨q1, q2, q3, q4⟩)
            · exact Or.inl q
            · exact Or.inr ⟨q1, by omega, q3, q4⟩
            · exact Or.inr ⟨by omega, by omega, by omega, by omega, by omega, q2, by rw [q1]; exact q4⟩
          · rintro (q | ⟨q1, q2, q3, q4, q5, q6, q7⟩)
            · exact Or.inl (Or.inl q)
            · by_cases e : a / 8 = k
              · exact Or.inr ⟨e, q6, by omega, by rw [← e]; exact q7⟩
              · exact Or.inl (Or.inr ⟨q1, by omega, q3, q4, q5, q6, q7⟩))
  refine run [3] 60 0 _ _ _ _ ?_
  refine loop 1 μ (by omega) ⟨bd_Sc hB (fun v => ?_) (fun a b => ?_), zq_rf⟩ (Nat.le_refl 1) 1 rfl
  · unfold bp_S
    exact ⟨Or.inl, fun q => q.elim id (fun q => by omega)⟩
  · unfold bp_E
    exact ⟨Or.inl, fun q => q.elim id (fun ⟨q1, q2, _⟩ => by omega)⟩
set_option maxHeartbeats 4000000 in
theorem ct_R_startWithHead {Γ : zk_G} {d p : Nat} {x : Int32} {μ : za_M} {g : gq_G} (hg : gq_ok g) (hC : gq_C g μ) (hx : x = nI p) (hp : p < gq_np g) (hd : 3 ≤ d) : zk_Ct zt Γ zm_R_startWithHead d 0 0 [za_r 20 0, za_r 1 0, za_i x] μ (fun r μ' => r = none ∧ bd_S μ' 4 (fun v => v < 6) (fun x y => bd_N g p x y ∨ (x < 8 ∧ y < 8 ∧ cl_V μ (gq_sy g p 0) x y)) ∧ zq_fr (bd_fS 4) μ μ') (fun _ _ => False) := by
  obtain ⟨c1, c2, c3, c4, c5, c6⟩ := gq_Cp hg hC hx hp
  have hs8 := gq_sy8 hg hp (Nat.zero_le _)
  refine zs_R_startWithHead (Nat.le_of_ble_eq_true rfl) (by omega) (fun ZZ run => ?_)
  refine run [] 60 0 _ _ _ _ ?_
  refine ⟨c2, ?_⟩
  refine ⟨d - 1, 0, 0, _, _, by omega, Nat.le_refl _, Nat.le_refl _, ct_B_start (by omega), ?_, fun _ _ h => h.elim⟩
  rintro r μ1 ⟨rfl, s1, s2, s3⟩
  have f1 : zq_fr (bd_fS 4) μ μ1 := zq_up s3 (fun _ _ q => q)
  have e6 : μ1.1 6 x.toNatClampNeg (0 : Int32).toNatClampNeg = nI (gq_sy g p 0) := by rw [f1.1 6 _ (fun q => by rcases q.1 with q | q <;> exact absurd q (by decide)), zn_c0]; exact c5 0 (Nat.zero_le _)
  have e23 : μ1.2 23 0 = μ.2 23 0 := f1.2 23 0 (by unfold bd_fS; decide)
  refine ⟨c2, zn_i (k := 0) rfl (by decide) (by decide), zn_i e6 hs8 (by decide), ?_⟩
  refine ⟨d - 1, 0, 0, _, _, by omega, Nat.le_refl _, Nat.le_refl _, ct_B_lay' (o := 0) rfl (by omega) (by omega), ?_, fun _ _ h => h.elim⟩
  rintro r μ2 ⟨rfl, l1, l2⟩
  have l1 : ∀ i, i < 32 → μ2.1 19 4 i = bd_lay (μ1.1 19 4) 0 (μ.2 23 0 (gq_sy g p 0)) i := fun i hi => by
    rw [l1 i hi]
    show bd_lay _ _ (μ1.2 23 0 (μ1.1 6 x.toNatClampNeg (0 : Int32).toNatClampNeg).toNatClampNeg) i = _
    rw [zn_c e6 (by omega), e23]
  refine ⟨d - 1, 0, 0, _, _, by omega, Nat.le_refl _, Nat.le_refl _, ct_B_join' (o := 0) rfl (by omega) (by omega), ?_, fun _ _ h => h.elim⟩
  rintro r μ3 ⟨rfl, j1, j2, j3⟩
  have h0 : bd_S μ1 4 (fun _ => False) (bd_N g p) := bd_S0 (fun i hi => by rw [s1 i hi]; exact c6 i hi) s2
  refine ⟨rfl, rfl, Nat.le_refl _, Nat.le_refl _, rfl, bd_Sc (bd_SJ (by omega) h0 (fun v q => q.elim) l1 (by rw [l2.1 18 4 (by decide)]) j1 j2) (fun v => ?_) (fun a b => ?_), zq_tr (zq_tr f1 (zq_up l2 (fun _ _ q => ⟨Or.inr q.1, q.2⟩))) (zq_up j3 (fun _ _ q => q))⟩
  · exact ⟨fun q => q.elim False.elim (fun q => by omega), fun q => Or.inr (by omega)⟩
  · unfold bd_F cl_V
    constructor
    · rintro (q | ⟨q1, q2, q3, q4⟩)
      · exact Or.inl q
      · refine Or.inr ⟨by omega, by omega, by omega, ?_⟩
        rw [show a % 8 = a by omega, show b % 8 = b by omega] at q4
        exact q4
    · rintro (q | ⟨q1, q2, q3, q4⟩)
      · exact Or.inl q
      · refine Or.inr ⟨by omega, by omega, by omega, ?_⟩
        rw [show a % 8 = a by omega, show b % 8 = b by omega]
        exact q4
