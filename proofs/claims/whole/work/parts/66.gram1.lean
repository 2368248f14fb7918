/-! the class: Grammar, small methods -/
theorem zn_r1 {x : Int32} {n : Nat} (hn : n < 2 ^ 31) (h1 : ¬ x < 0) (h2 : ¬ nI n ≤ x) : ∃ k, k < n ∧ x = nI k := by
  obtain ⟨k, hk, rfl⟩ := nI_of h1
  exact ⟨k, Classical.byContradiction fun q => h2 (nI_le (by omega) (by omega)), rfl⟩
theorem zn_r2 {x : Int32} {k n : Nat} (h : k < n) (hn : n < 2 ^ 31) (hx : x = nI k) : ¬ x < 0 ∧ ¬ nI n ≤ x := by
  subst hx
  exact ⟨gq_neg k (by omega), nI_ge h hn⟩
theorem ct_G_hasSymbol {Γ : zk_G} {d n : Nat} {x : Int32} {μ : za_M} (h0 : μ.1 1 0 0 = nI n) (hn : n ≤ 8) (hd : 1 ≤ d) : zk_Ct zt Γ zm_G_hasSymbol d 0 0 [za_r 1 0, za_i x] μ (fun r μ' => (∃ v : Int32, r = some (za_i v) ∧ (v = 0 ∨ v = 1) ∧ (v = 1 ↔ ∃ k, k < n ∧ x = nI k)) ∧ μ' = μ) (fun _ _ => False) := by
  refine zs_G_hasSymbol (Nat.le_of_ble_eq_true rfl) hd (fun ZZ run => ?_)
  refine run [] 30 0 _ _ _ _ ?_
  refine ⟨fun h => ?_, fun h => ⟨fun h2 => ?_, fun h2 => ?_⟩⟩
  · exact ⟨rfl, Or.inr ⟨rfl, Or.inl rfl⟩, Nat.le_refl _, Nat.le_refl _, ⟨0, rfl, Or.inl rfl, fun q => absurd q (by decide), fun ⟨k, q1, q2⟩ => absurd h (zn_r2 q1 (by omega) q2).1⟩, rfl⟩
  · have h2 : μ.1 1 0 0 ≤ x := h2
    rw [h0] at h2
    exact ⟨rfl, Or.inr ⟨rfl, Or.inl rfl⟩, Nat.le_refl _, Nat.le_refl _, ⟨0, rfl, Or.inl rfl, fun q => absurd q (by decide), fun ⟨k, q1, q2⟩ => absurd h2 (zn_r2 q1 (by omega) q2).2⟩, rfl⟩
  · have h2 : ¬ μ.1 1 0 0 ≤ x := h2
    rw [h0] at h2
    exact ⟨rfl, Or.inr ⟨rfl, Or.inr rfl⟩, Nat.le_refl _, Nat.le_refl _, ⟨1, rfl, Or.inr rfl, fun _ => zn_r1 (by omega) h h2, fun _ => rfl⟩, rfl⟩
theorem ct_G_hasProduction {Γ : zk_G} {d n : Nat} {x : Int32} {μ : za_M} (h0 : μ.1 1 0 3 = nI n) (hn : n ≤ 16) (hd : 1 ≤ d) : zk_Ct zt Γ zm_G_hasProduction d 0 0 [za_r 1 0, za_i x] μ (fun r μ' => (∃ v : Int32, r = some (za_i v) ∧ (v = 0 ∨ v = 1) ∧ (v = 1 ↔ ∃ k, k < n ∧ x = nI k)) ∧ μ' = μ) (fun _ _ => False) := by
  refine zs_G_hasProduction (Nat.le_of_ble_eq_true rfl) hd (fun ZZ run => ?_)
  refine run [] 30 0 _ _ _ _ ?_
  refine ⟨fun h => ?_, fun h => ⟨fun h2 => ?_, fun h2 => ?_⟩⟩
  · exact ⟨rfl, Or.inr ⟨rfl, Or.inl rfl⟩, Nat.le_refl _, Nat.le_refl _, ⟨0, rfl, Or.inl rfl, fun q => absurd q (by decide), fun ⟨k, q1, q2⟩ => absurd h (zn_r2 q1 (by omega) q2).1⟩, rfl⟩
  · have h2 : μ.1 1 0 3 ≤ x := h2
    rw [h0] at h2
    exact ⟨rfl, Or.inr ⟨rfl, Or.inl rfl⟩, Nat.le_refl _, Nat.le_refl _, ⟨0, rfl, Or.inl rfl, fun q => absurd q (by decide), fun ⟨k, q1, q2⟩ => absurd h2 (zn_r2 q1 (by omega) q2).2⟩, rfl⟩
  · have h2 : ¬ μ.1 1 0 3 ≤ x := h2
    rw [h0] at h2
    exact ⟨rfl, Or.inr ⟨rfl, Or.inr rfl⟩, Nat.le_refl _, Nat.le_refl _, ⟨1, rfl, Or.inr rfl, fun _ => zn_r1 (by omega) h h2, fun _ => rfl⟩, rfl⟩
theorem ct_G_canBePart {Γ : zk_G} {d n : Nat} {x : Int32} {μ : za_M} (h0 : μ.1 1 0 0 = nI n) (hn : n ≤ 8) (hd : 2 ≤ d) : zk_Ct zt Γ zm_G_canBePart d 0 0 [za_r 1 0, za_i x] μ (fun r μ' => (∃ v : Int32, r = some (za_i v) ∧ (v = 0 ∨ v = 1) ∧ (v = 1 ↔ (x = -1 ∨ ∃ k, k < n ∧ x = nI k))) ∧ μ' = μ) (fun _ _ => False) := by
  refine zs_G_canBePart (Nat.le_of_ble_eq_true rfl) (by omega) (fun ZZ run => ?_)
  refine run [] 30 0 _ _ _ _ ?_
  refine ⟨fun h => ?_, fun h => ?_⟩
  · exact ⟨rfl, Or.inr ⟨rfl, Or.inr rfl⟩, Nat.le_refl _, Nat.le_refl _, ⟨1, rfl, Or.inr rfl, fun _ => Or.inl h, fun _ => rfl⟩, rfl⟩
  · refine ⟨d - 1, 0, 0, _, _, by omega, Nat.le_refl _, Nat.le_refl _, ct_G_hasSymbol h0 hn (by omega), ?_, fun _ _ h => h.elim⟩
    rintro r μ1 ⟨⟨v, rfl, hv, hv1⟩, rfl⟩
    refine ⟨fun q => ?_, fun q => ?_⟩
    · exact ⟨rfl, Or.inr ⟨rfl, Or.inl rfl⟩, Nat.le_refl _, Nat.le_refl _, ⟨0, rfl, Or.inl rfl, fun z => absurd z (by decide), fun z => z.elim (fun z => absurd z h) (fun z => absurd (q.symm.trans (hv1.mpr z)) (by decide))⟩, rfl⟩
    · exact ⟨rfl, Or.inr ⟨rfl, Or.inr rfl⟩, Nat.le_refl _, Nat.le_refl _, ⟨1, rfl, Or.inr rfl, fun _ => Or.inr (hv1.mp (zn_or01 hv q)), fun _ => rfl⟩, rfl⟩
theorem hb_01 (x : Int32) {l : Nat} (hl : l < 32) {i : Int32} (hi : i = nI l) : (if ((x.toUInt32 >>> (i.toUInt32 &&& Int32.toUInt32 31)).toInt32 &&& 1) = 0 then (0 : Int32) else 1) = if bt x l = true then 1 else 0 := by
  subst hi
  have h := zb_t3 x hl
  by_cases q : bt x l = true
  · rw [if_neg (fun z => by rw [h.mp z] at q; cases q), if_pos q]
  · rw [if_pos (h.mpr (by rw [Bool.not_eq_true] at q; exact q)), if_neg q]
theorem ct_A_hasBit' {Γ : zk_G} {d l : Nat} {x i : Int32} {μ : za_M} (hl : l < 32) (hi : i = nI l) (hd : 1 ≤ d) : zk_Ct zt Γ zm_A_hasBit d 0 0 [za_i x, za_i i] μ (fun v μ' => v = some (za_i (if bt x l = true then 1 else 0)) ∧ μ' = μ) (fun _ _ => False) := by
  have h := ct_A_hasBit (Γ := Γ) (d := d) (x := x) (i := i) (μ := μ) hd
  rw [hb_01 x hl hi] at h
  exact h
theorem ct_G_defines {Γ : zk_G} {d p : Nat} {x z : Int32} {μ : za_M} {g : gq_G} (hg : gq_ok g) (hC : gq_C g μ) (hx : x = nI p) (hp : p < gq_np g) (hd : 2 ≤ d) : zk_Ct zt Γ zm_G_defines d 0 0 [za_r 1 0, za_i x, za_i z] μ (fun r μ' => (∃ v : Int32, r = some (za_i v) ∧ (v = 0 ∨ v = 1) ∧ (v = 1 ↔ ∃ k, k < 32 ∧ z = nI k ∧ gq_df g p k)) ∧ μ' = μ) (fun _ _ => False) := by
  obtain ⟨c1, c2, c3, c4, c5, c6⟩ := gq_Cp hg hC hx hp
  refine zs_G_defines (Nat.le_of_ble_eq_true rfl) (by omega) (fun ZZ run => ?_)
  refine run [] 30 0 _ _ _ _ ?_
  refine ⟨fun h => ?_, fun h => ⟨fun h2 => ?_, fun h2 => ⟨c2, ?_⟩⟩⟩
  · exact ⟨rfl, Or.inr ⟨rfl, Or.inl rfl⟩, Nat.le_refl _, Nat.le_refl _, ⟨0, rfl, Or.inl rfl, fun q => absurd q (by decide), fun ⟨k, q1, q2, _⟩ => absurd h (zn_r2 (n := 32) q1 (by decide) q2).1⟩, rfl⟩
  · exact ⟨rfl, Or.inr ⟨rfl, Or.inl rfl⟩, Nat.le_refl _, Nat.le_refl _, ⟨0, rfl, Or.inl rfl, fun q => absurd q (by decide), fun ⟨k, q1, q2, _⟩ => absurd h2 (zn_r2 (n := 32) q1 (by decide) q2).2⟩, rfl⟩
  · obtain ⟨k, hk, hz⟩ := zn_r1 (n := 32) (by decide) h h2
    refine ⟨d - 1, 0, 0, _, _, by omega, Nat.le_refl _, Nat.le_refl _, ct_A_hasBit' hk hz (by omega), ?_, fun _ _ h => h.elim⟩
    rintro r μ1 ⟨rfl, rfl⟩
    have hbit : bt (μ1.1 9 0 x.toNatClampNeg) k = true ↔ gq_df g p k := by rw [c3]; exact (hC.2.2.2 p hp).2.2.2.1 k hk
    have key : ∀ k', k' < 32 → z = nI k' → k' = k := fun k' q1 q2 => (nI_eq (by omega) (by omega)).mp (q2.symm.trans hz)
    by_cases q : bt (μ1.1 9 0 x.toNatClampNeg) k = true
    · rw [if_pos q]
      exact ⟨fun w => absurd w (by decide), fun _ => ⟨rfl, Or.inr ⟨rfl, Or.inr rfl⟩, Nat.le_refl _, Nat.le_refl _, ⟨1, rfl, Or.inr rfl, fun _ => ⟨k, hk, hz, hbit.mp q⟩, fun _ => rfl⟩, rfl⟩⟩
    · rw [if_neg q]
      exact ⟨fun _ => ⟨rfl, Or.inr ⟨rfl, Or.inl rfl⟩, Nat.le_refl _, Nat.le_refl _, ⟨0, rfl, Or.inl rfl, fun w => absurd w (by decide), fun ⟨k', q1, q2, q3⟩ => absurd (hbit.mpr (by rw [← key k' q1 q2]; exact q3)) q⟩, rfl⟩, fun w => absurd rfl w⟩
theorem ct_G_isGiven {Γ : zk_G} {d p : Nat} {x z : Int32} {μ : za_M} {g : gq_G} (hg : gq_ok g) (hC : gq_C g μ) (hx : x = nI p) (hp : p < gq_np g) (hd : 2 ≤ d) : zk_Ct zt Γ zm_G_isGiven d 0 0 [za_r 1 0, za_i x, za_i z] μ (fun r μ' => (∃ v : Int32, r = some (za_i v) ∧ (v = 0 ∨ v = 1) ∧ (v = 1 ↔ ∃ k, k < 32 ∧ z = nI k ∧ gq_gv g p k)) ∧ μ' = μ) (fun _ _ => False) := by
  obtain ⟨c1, c2, c3, c4, c5, c6⟩ := gq_Cp hg hC hx hp
  refine zs_G_isGiven (Nat.le_of_ble_eq_true rfl) (by omega) (fun ZZ run => ?_)
  refine run [] 30 0 _ _ _ _ ?_
  refine ⟨fun h => ?_, fun h => ⟨fun h2 => ?_, fun h2 => ⟨c2, ?_⟩⟩⟩
  · exact ⟨rfl, Or.inr ⟨rfl, Or.inl rfl⟩, Nat.le_refl _, Nat.le_refl _, ⟨0, rfl, Or.inl rfl, fun q => absurd q (by decide), fun ⟨k, q1, q2, _⟩ => absurd h (zn_r2 (n := 32) q1 (by decide) q2).1⟩, rfl⟩
  · exact ⟨rfl, Or.inr ⟨rfl, Or.inl rfl⟩, Nat.le_refl _, Nat.le_refl _, ⟨0, rfl, Or.inl rfl, fun q => absurd q (by decide), fun ⟨k, q1, q2, _⟩ => absurd h2 (zn_r2 (n := 32) q1 (by decide) q2).2⟩, rfl⟩
  · obtain ⟨k, hk, hz⟩ := zn_r1 (n := 32) (by decide) h h2
    refine ⟨d - 1, 0, 0, _, _, by omega, Nat.le_refl _, Nat.le_refl _, ct_A_hasBit' hk hz (by omega), ?_, fun _ _ h => h.elim⟩
    rintro r μ1 ⟨rfl, rfl⟩
    have hbit : bt (μ1.1 10 0 x.toNatClampNeg) k = true ↔ gq_gv g p k := by rw [c3]; exact (hC.2.2.2 p hp).2.2.2.2 k hk
    have key : ∀ k', k' < 32 → z = nI k' → k' = k := fun k' q1 q2 => (nI_eq (by omega) (by omega)).mp (q2.symm.trans hz)
    by_cases q : bt (μ1.1 10 0 x.toNatClampNeg) k = true
    · rw [if_pos q]
      exact ⟨fun w => absurd w (by decide), fun _ => ⟨rfl, Or.inr ⟨rfl, Or.inr rfl⟩, Nat.le_refl _, Nat.le_refl _, ⟨1, rfl, Or.inr rfl, fun _ => ⟨k, hk, hz, hbit.mp q⟩, fun _ => rfl⟩, rfl⟩⟩
    · rw [if_neg q]
      exact ⟨fun _ => ⟨rfl, Or.inr ⟨rfl, Or.inl rfl⟩, Nat.le_refl _, Nat.le_refl _, ⟨0, rfl, Or.inl rfl, fun w => absurd w (by decide), fun ⟨k', q1, q2, q3⟩ => absurd (hbit.mpr (by rw [← key k' q1 q2]; exact q3)) q⟩, rfl⟩, fun w => absurd rfl w⟩
theorem ct_G_wipe {Γ : zk_G} {d : Nat} {μ : za_M} (hd : 1 ≤ d) : zk_Ct zt Γ zm_G_wipe d 0 0 [za_r 1 0] μ (fun r μ' => r = none ∧ μ' = (za_u (za_u μ.1 1 0 0 0) 1 0 3 0, μ.2)) (fun _ _ => False) := by
  refine zs_G_wipe (Nat.le_of_ble_eq_true rfl) hd (fun ZZ run => ?_)
  refine run [] 30 0 _ _ _ _ ?_
  exact ⟨rfl, rfl, Nat.le_refl _, Nat.le_refl _, rfl, rfl⟩
theorem ct_G_up' {Γ : zk_G} {d s : Nat} {x : Int32} {μ : za_M} {g : gq_G} (hg : gq_ok g) (hC : ∀ s, s < gq_ns g → μ.1 2 0 s = nI (gq_at g s) ∧ μ.1 3 0 s = gq_dn g s) (hx : x = nI s) (hs : s < gq_ns g) (hd : 3 ≤ d) : zk_Ct zt Γ zm_G_up d 0 0 [za_r 1 0, za_i x] μ (fun r μ' => (∃ v : Int32, r = some (za_i v) ∧ ∀ a, bt v a = true ↔ (a < gq_at g s ∧ bt (gq_dn g s) a = false)) ∧ μ' = μ) (fun _ _ => False) := by
  have hns : gq_ns g ≤ 8 := hg.1
  have hat := (hg.2.2.1 s hs).1
  have hcs : x.toNatClampNeg = s := zn_c hx (by omega)
  have hb : vp_in x 8 := zn_i hx (by omega) (by decide)
  refine zs_G_up (Nat.le_of_ble_eq_true rfl) (by omega) (fun ZZ run => ?_)
  refine run [] 30 0 _ _ _ _ ?_
  refine ⟨d - 1, 0, 0, _, _, by omega, Nat.le_refl _, Nat.le_refl _, ct_G_all (by omega) hb, ?_, fun _ _ h => h.elim⟩
  rintro r μ1 ⟨rfl, rfl⟩
  refine ⟨hb, rfl, Or.inl rfl, Nat.le_refl _, Nat.le_refl _, ⟨_, rfl, fun a => ?_⟩, rfl⟩
  rw [b_not, hcs, (hC s hs).1, (hC s hs).2, fb_bt' (by omega), Bool.and_eq_true, decide_eq_true_eq, Bool.not_eq_true']
theorem ct_G_addSymbol {Γ : zk_G} {d n : Nat} {a w : Int32} {μ : za_M} (h0 : μ.1 1 0 0 = nI n) (hn : n < 8) (hd : 1 ≤ d) : zk_Ct zt Γ zm_G_addSymbol d 0 0 [za_r 1 0, za_i a, za_i w] μ (fun r μ' => r = some (za_i (nI n)) ∧ μ' = (za_u (za_u (za_u μ.1 2 0 n a) 3 0 n w) 1 0 0 (nI (n + 1)), μ.2)) (fun _ _ => False) := by
  have hc : (μ.1 1 0 0).toNatClampNeg = n := zn_c h0 (by omega)
  have hb : vp_in (μ.1 1 0 0) 8 := zn_i h0 hn (by decide)
  refine zs_G_addSymbol (Nat.le_of_ble_eq_true rfl) hd (fun ZZ run => ?_)
  refine run [] 40 0 _ _ _ _ ?_
  refine ⟨hb, ?_⟩
  suffices post : ∀ f : Nat → Nat → Nat → Int32, za_u μ.1 2 0 (μ.1 1 0 0).toNatClampNeg a = f → f 1 0 0 = nI n → f = za_u μ.1 2 0 n a → vp_in (f 1 0 0) 8 ∧ ([] : List za_V) = [] ∧ (1 = 1 ∨ 1 = 2 ∧ ((za_u (za_u f 3 0 (f 1 0 0).toNatClampNeg w) 1 0 0 (za_u f 3 0 (f 1 0 0).toNatClampNeg w 1 0 0 + 1)) 1 0 0 - 1 = 0 ∨ (za_u (za_u f 3 0 (f 1 0 0).toNatClampNeg w) 1 0 0 (za_u f 3 0 (f 1 0 0).toNatClampNeg w 1 0 0 + 1)) 1 0 0 - 1 = 1)) ∧ 0 ≤ 0 ∧ 0 ≤ 0 ∧ some (za_i ((za_u (za_u f 3 0 (f 1 0 0).toNatClampNeg w) 1 0 0 (za_u f 3 0 (f 1 0 0).toNatClampNeg w 1 0 0 + 1)) 1 0 0 - 1)) = some (za_i (nI n)) ∧ ((za_u (za_u f 3 0 (f 1 0 0).toNatClampNeg w) 1 0 0 (za_u f 3 0 (f 1 0 0).toNatClampNeg w 1 0 0 + 1), μ.2) : za_M) = (za_u (za_u (za_u μ.1 2 0 n a) 3 0 n w) 1 0 0 (nI (n + 1)), μ.2) from post _ rfl (by dsimp only; rw [za_u_b (show (1 : Nat) ≠ 2 by decide)]; exact h0) (by dsimp only; rw [hc])
  intro f hf hf0 hf1
  have hcf : (f 1 0 0).toNatClampNeg = n := zn_c hf0 (by omega)
  have e1 : za_u f 3 0 n w 1 0 0 = nI n := by rw [za_u_b (show (1 : Nat) ≠ 3 by decide)]; exact hf0
  rw [hcf, e1, nI_1, za_u_same, nI_s1]
  refine ⟨by rw [hf0]; exact zn_in hn (by decide), rfl, Or.inl rfl, Nat.le_refl _, Nat.le_refl _, rfl, by rw [hf1]⟩
theorem ct_G_addDependence {Γ : zk_G} {d p x y : Nat} {P X Y : Int32} {μ : za_M} {g : gq_G} (hg : gq_ok g) (hC : gq_C g μ) (hP : P = nI p) (hp : p < gq_np g) (hX : X = nI x) (hx : x < 32) (hY : Y = nI y) (hy : y < 32) (hd : 2 ≤ d) : zk_Ct zt Γ zm_G_addDependence d 0 0 [za_r 1 0, za_i P, za_i X, za_i Y] μ (fun r μ' => (bt (gq_nd g p x) y = true ∧ r = some (za_i 0) ∧ μ' = μ) ∨ (bt (gq_nd g p x) y = false ∧ r = some (za_i 1) ∧ μ' = (za_u μ.1 8 p x (gq_nd g p x ||| (1 <<< (nI y &&& 31))), μ.2))) (fun _ _ => False) := by
  obtain ⟨c1, c2, c3, c4, c5, c6⟩ := gq_Cp hg hC hP hp
  have hcx : X.toNatClampNeg = x := zn_c hX (by omega)
  have hbx : vp_in X 32 := zn_i hX hx (by decide)
  have e8 : μ.1 8 P.toNatClampNeg X.toNatClampNeg = gq_nd g p x := by rw [hcx]; exact c6 x hx
  refine zs_G_addDependence (Nat.le_of_ble_eq_true rfl) (by omega) (fun ZZ run => ?_)
  refine run [] 40 0 _ _ _ _ ?_
  refine ⟨c2, hbx, d - 1, 0, 0, _, _, by omega, Nat.le_refl _, Nat.le_refl _, ct_A_hasBit' hy hY (by omega), ?_, fun _ _ h => h.elim⟩
  rintro r μ1 ⟨rfl, rfl⟩
  show ((if bt (μ1.1 8 P.toNatClampNeg X.toNatClampNeg) y = true then (1 : Int32) else 0) = 0 → _) ∧ (¬ (if bt (μ1.1 8 P.toNatClampNeg X.toNatClampNeg) y = true then (1 : Int32) else 0) = 0 → _)
  rw [e8]
  cases hb : bt (gq_nd g p x) y with
  | true =>
    rw [if_pos rfl]
    exact ⟨fun q => absurd q (by decide), fun _ => ⟨rfl, Or.inr ⟨rfl, Or.inl rfl⟩, Nat.le_refl _, Nat.le_refl _, Or.inl ⟨rfl, rfl, rfl⟩⟩⟩
  | false =>
    rw [if_neg (by decide)]
    refine ⟨fun _ => ⟨c2, hbx, hbx, rfl, Or.inr ⟨rfl, Or.inr rfl⟩, Nat.le_refl _, Nat.le_refl _, Or.inr ⟨rfl, rfl, ?_⟩⟩, fun q => absurd rfl q⟩
    show (za_u μ1.1 8 P.toNatClampNeg X.toNatClampNeg (μ1.1 8 P.toNatClampNeg X.toNatClampNeg ||| (1 <<< (Y &&& 31))), μ1.2) = _
    rw [e8, c3, hcx, hY]
theorem ct_A_forgetAnswers {Γ : zk_G} {d : Nat} {μ : za_M} (hd : 1 ≤ d) : zk_Ct zt Γ zm_A_forgetAnswers d 0 0 [za_r 0 0] μ (fun r μ' => r = none ∧ μ' = (za_u (za_u (za_u (za_u μ.1 11 0 0 0) 20 0 0 0) 24 0 0 0) 24 1 0 0, μ.2)) (fun _ _ => False) := by
  refine zs_A_forgetAnswers (Nat.le_of_ble_eq_true rfl) hd (fun ZZ run => ?_)
  refine run [] 40 0 _ _ _ _ ?_
  exact ⟨Or.inl rfl, Or.inl rfl, Or.inl rfl, Or.inl rfl, rfl, rfl, Nat.le_refl _, Nat.le_refl _, rfl, rfl⟩
