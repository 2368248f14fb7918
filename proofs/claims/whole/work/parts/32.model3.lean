/-! the reference: unions -/
theorem zn_or01 {v : Int32} (h : v = 0 ∨ v = 1) (hn : ¬ v = 0) : v = 1 := h.resolve_left hn
/-- all parts have a union -/
def mo_all (g : gq_G) (μ : za_M) (p n : Nat) : Prop := ∀ o, 1 ≤ o → o < n → o ≤ gq_m g p → μ.1 39 0 (gq_sy g p o) = 1
set_option maxHeartbeats 4000000 in
theorem ct_M_allHave {Γ : zk_G} {d p : Nat} {x : Int32} {μ : za_M} {g : gq_G} (hg : gq_ok g) (hM : gq_M g μ) (h01 : ∀ s, s < 8 → μ.1 39 0 s = 0 ∨ μ.1 39 0 s = 1) (hx : x = nI p) (hp : p < gq_np g) (hd : 1 ≤ d) : zk_Ct zt Γ zm_M_allHave d 0 0 [za_r 30 0, za_i x] μ (fun r μ' => (∃ v : Int32, r = some (za_i v) ∧ (v = 0 ∨ v = 1) ∧ (v = 1 ↔ mo_all g μ p 4)) ∧ μ' = μ) (fun _ _ => False) := by
  have hp16 : p < 16 := Nat.lt_of_lt_of_le hp hg.2.1
  refine zs_M_allHave (Nat.le_of_ble_eq_true rfl) hd (fun ZZ run => ?_)
  have loop := zn_for (σ := Int32) (N := 4)
    (P := fun k v => 1 ≤ k → ∀ y : Int32, y = nI k → ZZ 4 [some (za_r 30 0), some (za_i x), some (za_i v), some (za_i y)] [] μ (0, 0))
    (I := fun k v => (v = 0 ∨ v = 1) ∧ (v = 1 ↔ mo_all g μ p k))
    (fun v h h1 y hy => by
      refine run [4] 60 4 _ _ _ _ ?_
      refine ⟨fun _ => ?_, fun q => absurd (by rw [hy]; exact nI_le (Nat.le_refl 4) (by decide)) q⟩
      exact ⟨rfl, Or.inr ⟨rfl, h.1⟩, Nat.le_refl _, Nat.le_refl _, ⟨v, rfl, h.1, h.2⟩, rfl⟩)
    (fun k v hk h ih h1 y hy => by
      obtain ⟨o1, o2⟩ := gq_occ hM hx hy hp hp16 hk
      have no : ¬ mo_all g μ p (k + 1) → ZZ 4 [some (za_r 30 0), some (za_i x), some (za_i 0), some (za_i (y + 1))] [] μ (0, 0) := fun q => ih 0 ⟨Or.inl rfl, fun z => absurd z (by decide), fun z => absurd z q⟩ (by omega) _ (zn_s hy)
      have yes : mo_all g μ p (k + 1) → ZZ 4 [some (za_r 30 0), some (za_i x), some (za_i 1), some (za_i (y + 1))] [] μ (0, 0) := fun q => ih 1 ⟨Or.inr rfl, fun _ => q, fun _ => rfl⟩ (by omega) _ (zn_s hy)
      refine run [4] 60 4 _ _ _ _ ?_
      refine ⟨fun q => absurd q (zn_ge hy rfl hk (by decide)), fun _ => ?_⟩
      refine ⟨fun hv => ?_, fun hv => ⟨o1, fun hs => ?_, fun hs => ?_⟩⟩
      · refine no (fun q => ?_)
        have := h.2.mpr (fun o a b c => q o a (by omega) c)
        rw [hv] at this
        exact absurd this (by decide)
      · rw [o2] at hs
        refine yes (fun o a b c => ?_)
        by_cases e : o = k
        · subst e
          rw [if_pos c] at hs
          exact absurd hs (gq_neg _ (by have := gq_sy8 hg hp c; omega))
        · exact h.2.mp (zn_or01 h.1 hv) o a (by omega) c
      · rw [o2] at hs
        have hle : k ≤ gq_m g p := by
          refine Classical.byContradiction fun q => hs ?_
          rw [if_neg q]
          exact gq_m1
        rw [if_pos hle] at o2
        have hs8 := gq_sy8 hg hp hle
        refine ⟨o1, by rw [o2]; exact zn_in hs8 (by decide), fun hb => ?_, fun hb => ?_⟩
        · rw [o2, zn_cl (by omega)] at hb
          refine no (fun q => ?_)
          have := q k h1 (Nat.lt_succ_self k) hle
          rw [hb] at this
          exact absurd this (by decide)
        · rw [o2, zn_cl (by omega)] at hb
          refine yes (fun o a b c => ?_)
          by_cases e : o = k
          · subst e
            exact zn_or01 (h01 _ hs8) hb
          · exact h.2.mp (zn_or01 h.1 hv) o a (by omega) c)
  refine run [4] 60 0 _ _ _ _ ?_
  exact loop 1 1 (by decide) ⟨Or.inr rfl, fun _ o a b _ => by omega, fun _ => rfl⟩ (Nat.le_refl 1) 1 rfl
/-- unions laid at the parts k .. of a production but one -/
def mo_lu (g : gq_G) (p : Nat) (but : Nat) (u : Nat → Int32) (r : Nat → Int32) (n : Nat) (i : Nat) : Int32 := if 1 ≤ i / 8 ∧ i / 8 < n ∧ i % 8 < 6 ∧ i / 8 ≤ gq_m g p ∧ i / 8 ≠ but then r i ||| (u (8 * gq_sy g p (i / 8) + i % 8) <<< (nI (8 * (i / 8)) &&& 31)) else r i
set_option maxHeartbeats 8000000 in
theorem ct_M_addUnions {Γ : zk_G} {d p but : Nat} {x z : Int32} {μ : za_M} {g : gq_G} (hg : gq_ok g) (hM : gq_M g μ) (hx : x = nI p) (hz : z = nI but) (hb4 : but < 4) (hp : p < gq_np g) (hd : 1 ≤ d) : zk_Ct zt Γ zm_M_addUnions d 0 0 [za_r 30 0, za_i x, za_i z] μ (fun r μ' => r = none ∧ (∀ i, i < 32 → μ'.1 38 0 i = mo_lu g p but (μ.1 40 0) (μ.1 38 0) 4 i) ∧ zq_fr (fun b j => b = 38 ∧ j = 0) μ μ') (fun _ _ => False) := by
  have hp16 : p < 16 := Nat.lt_of_lt_of_le hp hg.2.1
  refine zs_M_addUnions (Nat.le_of_ble_eq_true rfl) hd (fun ZZ run => ?_)
  have loop := zn_for (σ := za_M × Option za_V × Option za_V) (N := 4)
    (P := fun k s => 1 ≤ k → ∀ y : Int32, y = nI k → ZZ 2 [some (za_r 30 0), some (za_i x), some (za_i z), some (za_i y), s.2.1, s.2.2] [] s.1 (0, 0))
    (I := fun k s => (∀ i, i < 32 → s.1.1 38 0 i = mo_lu g p but (μ.1 40 0) (μ.1 38 0) k i) ∧ zq_fr (fun b j => b = 38 ∧ j = 0) μ s.1)
    (fun s h h1 y hy => by
      refine run [2, 22] 60 2 _ _ _ _ ?_
      refine ⟨fun _ => ?_, fun q => absurd (by rw [hy]; exact nI_le (Nat.le_refl 4) (by decide)) q⟩
      exact ⟨rfl, rfl, Nat.le_refl _, Nat.le_refl _, rfl, h.1, h.2⟩)
    (fun k s hk h ih h1 y hy => by
      have hM' : gq_M g s.1 := gq_M_fr hM h.2 (by decide) (by decide) (by decide) (by decide) (by rw [h.2.1 30 0 (by decide)]) (by rw [h.2.1 30 0 (by decide)])
      obtain ⟨o1, o2⟩ := gq_occ hM' hx hy hp hp16 hk
      generalize hw : s.1.1 33 0 (4 * x + y).toNatClampNeg = w at o2
      have skip : (¬ k ≤ gq_m g p ∨ k = but) → ∀ v1 v2, ZZ 2 [some (za_r 30 0), some (za_i x), some (za_i z), some (za_i (y + 1)), v1, v2] [] s.1 (0, 0) := by
        intro hs v1 v2
        refine ih (s.1, v1, v2) ⟨fun i hi => ?_, h.2⟩ (by omega) _ (zn_s hy)
        rw [h.1 i hi, mo_lu, mo_lu]
        by_cases e : i / 8 = k
        · rw [if_neg (fun q => by omega), if_neg (fun q => by rcases hs with hs | hs <;> omega)]
        · by_cases c : 1 ≤ i / 8 ∧ i / 8 < k ∧ i % 8 < 6 ∧ i / 8 ≤ gq_m g p ∧ i / 8 ≠ but
          · rw [if_pos c, if_pos (by omega)]
          · rw [if_neg c, if_neg (fun q => c (by omega))]
      have inner := zn_for (σ := za_M) (N := 6)
        (P := fun n μ1 => ∀ a : Int32, a = nI n → ZZ 22 [some (za_r 30 0), some (za_i x), some (za_i z), some (za_i y), some (za_i w), some (za_i a)] [] μ1 (0, 0))
        (I := fun n μ1 => (k ≤ gq_m g p ∧ k ≠ but) ∧ (∀ i, i < 32 → μ1.1 38 0 i = if i / 8 = k ∧ i % 8 < n then mo_lu g p but (μ.1 40 0) (μ.1 38 0) (k + 1) i else mo_lu g p but (μ.1 40 0) (μ.1 38 0) k i) ∧ zq_fr (fun b j => b = 38 ∧ j = 0) μ μ1)
        (fun μ1 q a ha => by
          refine run [2, 22] 60 22 _ _ _ _ ?_
          refine ⟨fun _ => ?_, fun z => absurd (by rw [ha]; exact nI_le (Nat.le_refl 6) (by decide)) z⟩
          refine ih (μ1, some (za_i w), some (za_i a)) ⟨fun i hi => ?_, q.2.2⟩ (by omega) _ (zn_s hy)
          rw [q.2.1 i hi]
          by_cases c : i / 8 = k ∧ i % 8 < 6
          · rw [if_pos c]
          · rw [if_neg c, mo_lu, mo_lu]
            by_cases c2 : 1 ≤ i / 8 ∧ i / 8 < k ∧ i % 8 < 6 ∧ i / 8 ≤ gq_m g p ∧ i / 8 ≠ but
            · rw [if_pos c2, if_pos (by omega)]
            · rw [if_neg c2, if_neg (fun q => c2 (by omega))])
        (fun n μ1 hn q ih2 a ha => by
          obtain ⟨⟨hle, hne⟩, q1, q2⟩ := q
          rw [if_pos hle] at o2
          have hs8 := gq_sy8 hg hp hle
          refine run [2, 22] 60 22 _ _ _ _ ?_
          refine ⟨fun z => absurd z (zn_ge ha rfl hn (by decide)), fun _ => ⟨fun hs => absurd hs (by rw [o2]; exact gq_neg _ (by omega)), fun _ => ⟨fun hs => ?_, fun _ => ?_⟩⟩⟩
          · rw [hy, hz, nI_eq (by omega) (by omega)] at hs
            exact absurd hs hne
          · have e1 : (8 : Int32) * y + a = nI (8 * k + n) := by rw [hy, ha, zn_8, nI_add]
            have e2 : (8 : Int32) * w + a = nI (8 * gq_sy g p k + n) := by rw [o2, ha, zn_8, nI_add]
            have e3 : (8 : Int32) * y = nI (8 * k) := by rw [hy, zn_8]
            refine ⟨zn_i e1 (by omega) (by decide), zn_i e2 (by omega) (by decide), zn_i e1 (by omega) (by decide), ?_⟩
            refine ih2 _ ⟨⟨hle, hne⟩, fun i hi => ?_, zq_u q2 ⟨rfl, rfl⟩⟩ _ (zn_s ha)
            dsimp only
            rw [zn_c e1 (by omega), zn_c e2 (by omega), e3]
            by_cases e : i = 8 * k + n
            · have d1 : i / 8 = k := by omega
              have d2 : i % 8 = n := by omega
              have hrow : μ1.1 38 0 i = μ.1 38 0 i := by
                rw [q1 i hi, if_neg (by omega), mo_lu, if_neg (by omega)]
              rw [if_pos (by omega), mo_lu, if_pos (by omega), d1, d2, ← e, za_u_same, hrow, q2.1 40 0 (by decide)]
            · rw [za_u_i e, q1 i hi]
              by_cases c : i / 8 = k ∧ i % 8 < n
              · rw [if_pos c, if_pos (by omega)]
              · rw [if_neg c, if_neg (by omega)])
      refine run [2, 22] 60 2 _ _ _ _ ?_
      refine ⟨fun q => absurd q (zn_ge hy rfl hk (by decide)), fun _ => ⟨o1, ?_⟩⟩
      by_cases hc : k ≤ gq_m g p ∧ k ≠ but
      · have h9 := inner 0 s.1 (Nat.zero_le _) ⟨hc, fun i hi => by rw [h.1 i hi, if_neg (by omega)], h.2⟩ 0 rfl
        rw [← hw] at h9
        exact h9
      · have head : ZZ 22 [some (za_r 30 0), some (za_i x), some (za_i z), some (za_i y), some (za_i w), some (za_i 0)] [] s.1 (0, 0) := by
          refine run [2, 22] 60 22 _ _ _ _ ?_
          refine ⟨fun z => absurd z (by decide), fun _ => ⟨fun hs => ?_, fun hs => ⟨fun hq => ?_, fun hq => ?_⟩⟩⟩
          · refine skip (Or.inl fun q => ?_) _ _
            rw [o2, if_pos q] at hs
            exact absurd hs (gq_neg _ (by have := gq_sy8 hg hp q; omega))
          · rw [hy, hz, nI_eq (by omega) (by omega)] at hq
            exact skip (Or.inr hq) _ _
          · refine absurd ⟨?_, fun q => hq (by rw [hy, hz, q])⟩ hc
            refine Classical.byContradiction fun q => hs ?_
            rw [o2, if_neg q]
            exact gq_m1
        rw [← hw] at head
        exact head)
  refine run [2, 22] 60 0 _ _ _ _ ?_
  exact loop 1 (μ, none, none) (by decide) ⟨fun i hi => by rw [mo_lu, if_neg (by omega)], zq_rf⟩ (Nat.le_refl 1) 1 rfl
