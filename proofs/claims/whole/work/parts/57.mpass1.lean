/-! the reference: places, sets -/
theorem zn_div {k : Nat} (h : k < 2 ^ 31) : nI k / 8 = nI (k / 8) := pk_div h (by decide) (by decide)
theorem zn_rem {k : Nat} (h : k < 2 ^ 31) : nI k - nI k / 8 * 8 = nI (k % 8) := pk_rem h (by decide) (by decide)
theorem ct_M_symbolOf' {Γ : zk_G} {d p k : Nat} {x o : Int32} {μ : za_M} {g : gq_G} (hg : gq_ok g) (hM : gq_M g μ) (hx : x = nI p) (ho : o = nI k) (hk : k < 2 ^ 31) (hp : p < gq_np g) (hd : 2 ≤ d) : zk_Ct zt Γ zm_M_symbolOf d 0 0 [za_r 30 0, za_i x, za_i o] μ (fun r μ' => (∃ s : Int32, r = some (za_i s) ∧ s = if k ≤ gq_m g p then nI (gq_sy g p k) else -1) ∧ μ' = μ) (fun _ _ => False) := by
  have hp16 : p < 16 := Nat.lt_of_lt_of_le hp hg.2.1
  have hm := (hg.2.2.2.2.1 p hp).1
  refine zs_M_symbolOf (Nat.le_of_ble_eq_true rfl) (by omega) (fun ZZ run => ?_)
  refine run [] 20 0 _ _ _ _ ?_
  refine ⟨d - 1, 0, 0, _, _, by omega, Nat.le_refl _, Nat.le_refl _, ct_M_in (by omega), ?_, fun _ _ h => h.elim⟩
  rintro r μ1 ⟨rfl, rfl⟩
  by_cases h : k < 4
  · have hn : ¬ (o < 0 ∨ 3 < o) := by
      rintro (q | q)
      · rw [ho] at q; exact gq_neg k hk q
      · exact absurd q (zn_nl (show (3 : Int32) = nI 3 from rfl) ho (by omega) (by decide))
    obtain ⟨o1, o2⟩ := gq_occ hM hx ho hp hp16 h
    rw [if_neg hn]
    exact ⟨fun q => absurd q (by decide), fun _ => ⟨o1, rfl, Or.inl rfl, Nat.le_refl _, Nat.le_refl _, ⟨_, rfl, o2⟩, rfl⟩⟩
  · have hn : o < 0 ∨ 3 < o := Or.inr (zn_lt2 (show (3 : Int32) = nI 3 from rfl) ho (by omega) hk)
    rw [if_pos hn]
    exact ⟨fun _ => ⟨rfl, Or.inl rfl, Nat.le_refl _, Nat.le_refl _, ⟨-1, rfl, by rw [if_neg (by omega)]⟩, rfl⟩, fun q => absurd rfl q⟩
theorem ct_M_isThere {Γ : zk_G} {d p : Nat} {x z : Int32} {μ : za_M} {g : gq_G} (hg : gq_ok g) (hM : gq_M g μ) (hx : x = nI p) (hp : p < gq_np g) (hd : 3 ≤ d) : zk_Ct zt Γ zm_M_isThere d 0 0 [za_r 30 0, za_i x, za_i z] μ (fun r μ' => (∃ v : Int32, r = some (za_i v) ∧ (v = 0 ∨ v = 1) ∧ (v = 1 ↔ ∃ k, k < 32 ∧ z = nI k ∧ gq_th g p k)) ∧ μ' = μ) (fun _ _ => False) := by
  have hm := (hg.2.2.2.2.1 p hp).1
  refine zs_M_isThere (Nat.le_of_ble_eq_true rfl) (by omega) (fun ZZ run => ?_)
  refine run [] 40 0 _ _ _ _ ?_
  refine ⟨fun hz => ?_, fun hz => ?_⟩
  · obtain ⟨k, hk, rfl⟩ := nI_of (Int32.not_lt.mpr hz)
    refine ⟨by decide, ?_⟩
    refine ⟨d - 1, 0, 0, _, _, by omega, Nat.le_refl _, Nat.le_refl _, ct_M_symbolOf' (k := k / 8) hg hM hx (zn_div hk) (by omega) hp (by omega), ?_, fun _ _ h => h.elim⟩
    rintro r μ1 ⟨⟨s, rfl, hs⟩, rfl⟩
    by_cases h : k / 8 ≤ gq_m g p
    · rw [if_pos h] at hs
      have hs8 := gq_sy8 hg hp h
      have hsn := (hg.2.2.2.2.1 p hp).2 _ h
      have e31 : μ1.1 31 0 s.toNatClampNeg = nI (gq_at g (gq_sy g p (k / 8))) := by rw [zn_c hs (by omega)]; exact (hM.2.2.1 _ hsn).1
      have hat := (hg.2.2.1 _ hsn).1
      refine ⟨fun q => absurd q (by rw [hs]; exact gq_neg _ (by omega)), fun _ => ⟨by decide, zn_i hs hs8 (by decide), fun q => ?_, fun q => ?_⟩⟩
      · refine ⟨rfl, Or.inr ⟨rfl, Or.inl rfl⟩, Nat.le_refl _, Nat.le_refl _, ⟨0, rfl, Or.inl rfl, fun q => absurd q (by decide), fun ⟨k', q1, q2, q3, q4⟩ => ?_⟩, rfl⟩
        have e : k = k' := (nI_eq (by omega) (by omega)).mp q2
        subst e
        exact absurd q (zn_ge (zn_rem hk) e31 q4 (by omega))
      · refine ⟨rfl, Or.inr ⟨rfl, Or.inr rfl⟩, Nat.le_refl _, Nat.le_refl _, ⟨1, rfl, Or.inr rfl, fun _ => ⟨k, by omega, rfl, h, ?_⟩, fun _ => rfl⟩, rfl⟩
        exact Classical.byContradiction fun z => q (by rw [e31, zn_rem hk]; exact nI_le (by omega) (by omega))
    · rw [if_neg h] at hs
      refine ⟨fun _ => ⟨rfl, Or.inr ⟨rfl, Or.inl rfl⟩, Nat.le_refl _, Nat.le_refl _, ⟨0, rfl, Or.inl rfl, fun q => absurd q (by decide), fun ⟨k', q1, q2, q3, q4⟩ => ?_⟩, rfl⟩, fun q => absurd (by rw [hs]; decide) q⟩
      have e : k = k' := (nI_eq (by omega) (by omega)).mp q2
      subst e
      exact absurd q3 h
  · refine ⟨fun _ => ⟨rfl, Or.inr ⟨rfl, Or.inl rfl⟩, Nat.le_refl _, Nat.le_refl _, ⟨0, rfl, Or.inl rfl, fun q => absurd q (by decide), fun ⟨k', q1, q2, q3⟩ => ?_⟩, rfl⟩, fun q => absurd (by decide) q⟩
    exact absurd (by rw [q2]; exact Int32.not_lt.mp (gq_neg k' (by omega))) hz
theorem ct_M_defines {Γ : zk_G} {d p : Nat} {x z : Int32} {μ : za_M} {g : gq_G} (hg : gq_ok g) (hM : gq_M g μ) (hx : x = nI p) (hp : p < gq_np g) (hd : 4 ≤ d) : zk_Ct zt Γ zm_M_defines d 0 0 [za_r 30 0, za_i x, za_i z] μ (fun r μ' => (∃ v : Int32, r = some (za_i v) ∧ (v = 0 ∨ v = 1) ∧ (v = 1 ↔ ∃ k, k < 32 ∧ z = nI k ∧ gq_df g p k)) ∧ μ' = μ) (fun _ _ => False) := by
  refine zs_M_defines (Nat.le_of_ble_eq_true rfl) (by omega) (fun ZZ run => ?_)
  refine run [] 60 0 _ _ _ _ ?_
  refine ⟨d - 1, 0, 0, _, _, by omega, Nat.le_refl _, Nat.le_refl _, ct_M_isThere hg hM hx hp (by omega), ?_, fun _ _ h => h.elim⟩
  rintro r μ1 ⟨⟨v, rfl, hv, hv1⟩, rfl⟩
  refine ⟨fun q => ?_, fun q => ?_⟩
  · refine ⟨rfl, Or.inr ⟨rfl, Or.inl rfl⟩, Nat.le_refl _, Nat.le_refl _, ⟨0, rfl, Or.inl rfl, fun q => absurd q (by decide), fun ⟨k, q1, q2, q3⟩ => ?_⟩, rfl⟩
    have := hv1.mpr ⟨k, q1, q2, q3.1⟩
    rw [q] at this
    exact absurd this (by decide)
  · obtain ⟨k, hk, rfl, hth⟩ := hv1.mp (zn_or01 hv q)
    refine ⟨by decide, ?_⟩
    refine ⟨d - 1, 0, 0, _, _, by omega, Nat.le_refl _, Nat.le_refl _, ct_M_symbolOf' (k := k / 8) hg hM hx (zn_div (by omega)) (by omega) hp (by omega), ?_, fun _ _ h => h.elim⟩
    rintro r μ2 ⟨⟨s, rfl, hs⟩, rfl⟩
    rw [if_pos hth.1] at hs
    have hs8 := gq_sy8 hg hp hth.1
    have hsn := (hg.2.2.2.2.1 p hp).2 _ hth.1
    refine ⟨by decide, ?_⟩
    refine ⟨d - 1, 0, 0, _, _, by omega, Nat.le_refl _, Nat.le_refl _, ct_M_isDown' (a := k % 8) (by omega) hs (zn_rem (by omega)) hs8 (by omega) (hM.2.2.1 _ hsn).2, ?_, fun _ _ h => h.elim⟩
    rintro r μ3 ⟨⟨w, rfl, hw, hw1⟩, rfl⟩
    have yes : (w = 1 ↔ 7 < k) → ∃ k', k' < 32 ∧ nI k = nI k' ∧ gq_df g p k' := fun z => ⟨k, hk, rfl, hth, hw1.symm.trans z⟩
    have no : ¬ (w = 1 ↔ 7 < k) → ¬ ∃ k', k' < 32 ∧ nI k = nI k' ∧ gq_df g p k' := fun z ⟨k', q1, q2, q3⟩ => z (by
      have e : k = k' := (nI_eq (by omega) (by omega)).mp q2
      subst e
      exact hw1.trans q3.2)
    refine ⟨fun h7 => ⟨fun he => ?_, fun he => ?_⟩, fun h7 => ⟨fun he => ?_, fun he => ?_⟩⟩
    · have h7 : ¬ 7 < k := fun z => absurd h7 (nI_ge (a := 7) z (by omega))
      exact ⟨rfl, Or.inr ⟨rfl, Or.inl rfl⟩, Nat.le_refl _, Nat.le_refl _, ⟨0, rfl, Or.inl rfl, fun q => absurd q (by decide), fun q => absurd q (no (fun z => he (hw.resolve_right (fun y => h7 (z.mp y)))))⟩, rfl⟩
    · have h7 : ¬ 7 < k := fun z => absurd h7 (nI_ge (a := 7) z (by omega))
      exact ⟨rfl, Or.inr ⟨rfl, Or.inr rfl⟩, Nat.le_refl _, Nat.le_refl _, ⟨1, rfl, Or.inr rfl, fun _ => yes ⟨fun z => absurd (z.symm.trans he) (by decide), fun z => absurd z h7⟩, fun _ => rfl⟩, rfl⟩
    · have h7 : 7 < k := Classical.byContradiction fun z => h7 (nI_le (b := 7) (by omega) (by decide))
      exact ⟨rfl, Or.inr ⟨rfl, Or.inl rfl⟩, Nat.le_refl _, Nat.le_refl _, ⟨0, rfl, Or.inl rfl, fun q => absurd q (by decide), fun q => absurd q (no (fun z => he (z.mpr h7)))⟩, rfl⟩
    · have h7 : 7 < k := Classical.byContradiction fun z => h7 (nI_le (b := 7) (by omega) (by decide))
      exact ⟨rfl, Or.inr ⟨rfl, Or.inr rfl⟩, Nat.le_refl _, Nat.le_refl _, ⟨1, rfl, Or.inr rfl, fun _ => yes ⟨fun _ => h7, fun _ => he⟩, fun _ => rfl⟩, rfl⟩
theorem ct_M_inSet {Γ : zk_G} {d p k : Nat} {x z : Int32} {μ : za_M} {g : gq_G} (hg : gq_ok g) (hM : gq_M g μ) (h01 : ∀ i, i < 64 → μ.1 43 0 i = 0 ∨ μ.1 43 0 i = 1) (hx : x = nI p) (hz : z = nI k) (hk : k < 32) (hth : gq_th g p k) (hp : p < gq_np g) (hd : 3 ≤ d) : zk_Ct zt Γ zm_M_inSet d 0 0 [za_r 30 0, za_i x, za_i z] μ (fun r μ' => r = some (za_i (μ.1 43 0 (ps_ix g p k))) ∧ μ' = μ) (fun _ _ => False) := by
  have hs8 := gq_sy8 hg hp hth.1
  refine zs_M_inSet (Nat.le_of_ble_eq_true rfl) (by omega) (fun ZZ run => ?_)
  refine run [] 40 0 _ _ _ _ ?_
  refine ⟨by decide, ?_⟩
  refine ⟨d - 1, 0, 0, _, _, by omega, Nat.le_refl _, Nat.le_refl _, ct_M_symbolOf' (k := k / 8) hg hM hx (by rw [hz]; exact zn_div (by omega)) (by omega) hp (by omega), ?_, fun _ _ h => h.elim⟩
  rintro r μ1 ⟨⟨s, rfl, hs⟩, rfl⟩
  rw [if_pos hth.1] at hs
  have e : (8 : Int32) * s + (z - z / 8 * 8) = nI (ps_ix g p k) := by
    rw [hs, hz, zn_rem (by omega), zn_8, nI_add]
    rfl
  have hlt : ps_ix g p k < 64 := (ps_th hg hp hth).2
  refine ⟨by decide, zn_i e hlt (by decide), ?_⟩
  rw [zn_c e (by omega)]
  exact ⟨rfl, Or.inr ⟨rfl, h01 _ hlt⟩, Nat.le_refl _, Nat.le_refl _, rfl, rfl⟩
