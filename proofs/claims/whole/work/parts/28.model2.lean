/-! the reference: rows -/
/-- one place gone through, all places so far gone through -/
def mo_st (r : Nat → Int32) (y i : Nat) : Int32 := if (r i >>> (nI y &&& 31)) &&& 1 = 1 then r i ||| r y else r i
def mo_f (r : Nat → Int32) : Nat → Nat → Int32
  | 0 => r
  | k + 1 => mo_st (mo_f r k) k
theorem mo_st_self (r : Nat → Int32) (y : Nat) : mo_st r y y = r y := by
  unfold mo_st
  split
  · exact Int32.or_self
  · rfl
set_option maxHeartbeats 4000000 in
theorem ct_M_follow {Γ : zk_G} {d : Nat} {μ : za_M} (hd : 1 ≤ d) : zk_Ct zt Γ zm_M_follow d 0 0 [za_r 30 0] μ (fun r μ' => r = none ∧ (∀ i, i < 32 → μ'.1 38 0 i = mo_f (μ.1 38 0) 32 i) ∧ zq_fr (fun b j => b = 38 ∧ j = 0) μ μ') (fun _ _ => False) := by
  refine zs_M_follow (Nat.le_of_ble_eq_true rfl) hd (fun ZZ run => ?_)
  have loop := zn_for (σ := za_M × Option za_V) (N := 32)
    (P := fun k s => ∀ y : Int32, y = nI k → ZZ 2 [some (za_r 30 0), some (za_i y), s.2] [] s.1 (0, 0))
    (I := fun k s => (∀ i, i < 32 → s.1.1 38 0 i = mo_f (μ.1 38 0) k i) ∧ zq_fr (fun b j => b = 38 ∧ j = 0) μ s.1)
    (fun s h y hy => by
      refine run [2, 10] 40 2 _ _ _ _ ?_
      refine ⟨fun _ => ?_, fun q => absurd (by rw [hy]; exact nI_le (Nat.le_refl 32) (by decide)) q⟩
      exact ⟨rfl, rfl, Nat.le_refl _, Nat.le_refl _, rfl, h⟩)
    (fun k s hk h ih y hy => by
      have hcy : y.toNatClampNeg = k := zn_c hy (by omega)
      have inner := zn_for (σ := za_M) (N := 32)
        (P := fun n μ1 => ∀ x : Int32, x = nI n → ZZ 10 [some (za_r 30 0), some (za_i y), some (za_i x)] [] μ1 (0, 0))
        (I := fun n μ1 => (∀ i, i < 32 → μ1.1 38 0 i = if i < n then mo_f (μ.1 38 0) (k + 1) i else mo_f (μ.1 38 0) k i) ∧ zq_fr (fun b j => b = 38 ∧ j = 0) μ μ1)
        (fun μ1 g x hx => by
          refine run [2, 10] 40 10 _ _ _ _ ?_
          refine ⟨fun _ => ?_, fun q => absurd (by rw [hx]; exact nI_le (Nat.le_refl 32) (by decide)) q⟩
          refine ih (μ1, some (za_i x)) ⟨fun i hi => ?_, g.2⟩ _ (zn_s hy)
          rw [g.1 i hi, if_pos hi])
        (fun n μ1 hn g ih2 x hx => by
          refine run [2, 10] 40 10 _ _ _ _ ?_
          refine ⟨fun q => absurd q (zn_ge hx rfl hn (by decide)), fun _ => ?_⟩
          have hcx : x.toNatClampNeg = n := zn_c hx (by omega)
          have hrn : μ1.1 38 0 n = mo_f (μ.1 38 0) k n := by rw [g.1 n hn, if_neg (Nat.lt_irrefl n)]
          have hrk : μ1.1 38 0 k = mo_f (μ.1 38 0) k k := by
            rw [g.1 k hk]
            split
            · exact mo_st_self _ k
            · rfl
          have next : ∀ v : Int32, v = mo_f (μ.1 38 0) (k + 1) n → ZZ 10 [some (za_r 30 0), some (za_i y), some (za_i (x + 1))] [] (za_u μ1.1 38 0 x.toNatClampNeg v, μ1.2) (0, 0) := by
            intro v hv
            refine ih2 _ ⟨fun i hi => ?_, zq_u g.2 ⟨rfl, rfl⟩⟩ _ (zn_s hx)
            dsimp only
            rw [hcx]
            by_cases e : i = n
            · subst e
              rw [za_u_same, if_pos (Nat.lt_succ_self i), hv]
            · rw [za_u_i e, g.1 i hi]
              by_cases e2 : i < n
              · rw [if_pos e2, if_pos (by omega)]
              · rw [if_neg e2, if_neg (by omega)]
          refine ⟨zn_i hx hn (by decide), fun hb => ?_, fun hb => ?_⟩
          · refine ⟨zn_i hx hn (by decide), zn_i hx hn (by decide), ?_⟩
            refine next _ ?_
            rw [hcx, hrn, hy] at hb
            rw [hcx, hrn]
            show _ = mo_st _ k n
            rw [mo_st, if_neg hb]
          · refine ⟨zn_i hx hn (by decide), zn_i hy hk (by decide), zn_i hx hn (by decide), ?_⟩
            refine next _ ?_
            rw [hcx, hrn, hy] at hb
            rw [hcx, hrn, hcy, hrk]
            show _ = mo_st _ k n
            rw [mo_st, if_pos hb])
      refine run [2, 10] 40 2 _ _ _ _ ?_
      refine ⟨fun q => absurd q (zn_ge hy rfl hk (by decide)), fun _ => ?_⟩
      refine inner 0 s.1 (Nat.zero_le _) ⟨fun i hi => ?_, h.2⟩ 0 rfl
      rw [h.1 i hi, if_neg (Nat.not_lt_zero i)])
  refine run [2, 10] 40 0 _ _ _ _ ?_
  exact loop 0 (μ, none) (Nat.zero_le _) ⟨fun i hi => rfl, zq_rf⟩ 0 rfl
/-- some row has its own bit -/
def mo_c (r : Nat → Int32) (n : Nat) : Prop := ∃ i, i < n ∧ (r i >>> (nI i &&& 31)) &&& 1 = 1
set_option maxHeartbeats 4000000 in
theorem ct_M_hasCircle {Γ : zk_G} {d : Nat} {μ : za_M} (hd : 1 ≤ d) : zk_Ct zt Γ zm_M_hasCircle d 0 0 [za_r 30 0] μ (fun r μ' => (∃ v : Int32, r = some (za_i v) ∧ (v = 0 ∨ v = 1) ∧ (v = 1 ↔ mo_c (μ.1 38 0) 32)) ∧ μ' = μ) (fun _ _ => False) := by
  refine zs_M_hasCircle (Nat.le_of_ble_eq_true rfl) hd (fun ZZ run => ?_)
  have loop := zn_for (σ := Int32) (N := 32)
    (P := fun k v => ∀ y : Int32, y = nI k → ZZ 4 [some (za_r 30 0), some (za_i v), some (za_i y)] [] μ (0, 0))
    (I := fun k v => (v = 0 ∨ v = 1) ∧ (v = 1 ↔ mo_c (μ.1 38 0) k))
    (fun v h y hy => by
      refine run [4] 40 4 _ _ _ _ ?_
      refine ⟨fun _ => ?_, fun q => absurd (by rw [hy]; exact nI_le (Nat.le_refl 32) (by decide)) q⟩
      exact ⟨rfl, Or.inr ⟨rfl, h.1⟩, Nat.le_refl _, Nat.le_refl _, ⟨v, rfl, h.1, h.2⟩, rfl⟩)
    (fun k v hk h ih y hy => by
      refine run [4] 40 4 _ _ _ _ ?_
      refine ⟨fun q => absurd q (zn_ge hy rfl hk (by decide)), fun _ => ?_⟩
      have hcy : y.toNatClampNeg = k := zn_c hy (by omega)
      refine ⟨fun hv => ?_, fun hv => ?_⟩
      · refine ih 1 ⟨Or.inr rfl, fun _ => ?_, fun _ => rfl⟩ _ (zn_s hy)
        obtain ⟨i, h1, h2⟩ := h.2.mp (h.1.resolve_left hv)
        exact ⟨i, by omega, h2⟩
      · refine ⟨zn_i hy hk (by decide), fun hb => ?_, fun hb => ?_⟩
        · refine ih 0 ⟨Or.inl rfl, fun q => absurd q (by decide), fun ⟨i, h1, h2⟩ => ?_⟩ _ (zn_s hy)
          by_cases e : i = k
          · subst e
            rw [hcy, hy] at hb
            exact absurd h2 hb
          · have := h.2.mpr ⟨i, by omega, h2⟩
            rw [hv] at this
            exact absurd this (by decide)
        · refine ih 1 ⟨Or.inr rfl, fun _ => ⟨k, Nat.lt_succ_self k, ?_⟩, fun _ => rfl⟩ _ (zn_s hy)
          rw [hcy, hy] at hb
          exact hb)
  refine run [4] 40 0 _ _ _ _ ?_
  exact loop 0 0 (Nat.zero_le _) ⟨Or.inl rfl, fun q => absurd q (by decide), fun ⟨i, h1, _⟩ => absurd h1 (Nat.not_lt_zero i)⟩ 0 rfl
