/-! Board -/
/-- the steps that end at v go on with those that begin there -/
def bd_jn (r : Nat → Int32) (v : Nat) (i : Nat) : Int32 := if r i &&& (1 <<< (nI v &&& 31)) = 0 then r i else r i ||| r v
set_option maxHeartbeats 4000000 in
theorem ct_B_joinAt {Γ : zk_G} {d J v : Nat} {μ : za_M} (hd : 1 ≤ d) (hv : v < 32) : zk_Ct zt Γ zm_B_joinAt d 0 0 [za_r 18 J, za_i (nI v)] μ
    (fun r μ' => r = none ∧ (∀ i, i < 32 → μ'.1 19 J i = bd_jn (μ.1 19 J) v i) ∧ (μ'.1 18 J 1 = if μ.1 19 J v &&& (1 <<< (nI v &&& 31)) = 0 then μ.1 18 J 1 else 1) ∧ zq_fr (fun b j => (b = 18 ∨ b = 19) ∧ j = J) μ μ') (fun _ _ => False) := by
  refine zs_B_joinAt (Nat.le_of_ble_eq_true rfl) hd (fun ZZ run => ?_)
  have loop : ∀ (n k : Nat) (μ1 : za_M), k + n = 32 → (∀ i, i < 32 → μ1.1 19 J i = if i < k then bd_jn (μ.1 19 J) v i else μ.1 19 J i) → (μ1.1 18 J 1 = if μ.1 19 J v &&& (1 <<< (nI v &&& 31)) = 0 then μ.1 18 J 1 else 1) → zq_fr (fun b j => (b = 18 ∨ b = 19) ∧ j = J) μ μ1 →
      ZZ 25 [some (za_r 18 J), some (za_i (nI v)), some (za_i (μ.1 19 J v)), some (za_i (1 <<< (nI v &&& 31))), some (za_i (nI k))] [] μ1 (0, 0) := by
    intro n
    induction n with
    | zero =>
      intro k μ1 hk h1 h2 h3
      have hk : k = 32 := by omega
      subst hk
      refine run [25] 40 25 _ _ _ _ ?_
      refine ⟨fun _ => ?_, fun h => absurd (nI_le (Nat.le_refl 32) (by decide)) h⟩
      exact ⟨rfl, rfl, Nat.le_refl _, Nat.le_refl _, rfl, fun i hi => by rw [h1 i hi, if_pos hi], h2, h3⟩
    | succ n ih =>
      intro k μ1 hk h1 h2 h3
      have hlt : k < 32 := by omega
      refine run [25] 40 25 _ _ _ _ ?_
      refine ⟨fun h => absurd h (zn_lt hlt (by decide)), fun _ => ?_⟩
      have hck : (nI k).toNatClampNeg = k := zn_cl (by omega)
      have hrow : μ1.1 19 J k = μ.1 19 J k := by rw [h1 k hlt, if_neg (Nat.lt_irrefl k)]
      refine ⟨zn_in hlt (by decide), fun hb => ?_, fun hb => ?_⟩
      · rw [hck, hrow] at hb
        have h9 := ih (k + 1) μ1 (by omega) (fun i hi => by
          rw [h1 i hi]
          by_cases e : i = k
          · subst e
            rw [if_neg (Nat.lt_irrefl i), if_pos (Nat.lt_succ_self i), bd_jn, if_pos hb]
          · by_cases e2 : i < k
            · rw [if_pos e2, if_pos (by omega)]
            · rw [if_neg e2, if_neg (by omega)]) h2 h3
        rw [← nI_1 k] at h9
        exact h9
      · rw [hck, hrow] at hb
        refine ⟨zn_in hlt (by decide), zn_in hlt (by decide), ?_⟩
        have h9 := ih (k + 1) (za_u μ1.1 19 J (nI k).toNatClampNeg (μ1.1 19 J (nI k).toNatClampNeg ||| μ.1 19 J v), μ1.2) (by omega) ?_ ?_ (zq_u h3 ⟨Or.inr rfl, rfl⟩)
        · rw [← nI_1 k] at h9
          exact h9
        · intro i hi
          show za_u μ1.1 19 J (nI k).toNatClampNeg _ 19 J i = _
          rw [hck]
          by_cases e : i = k
          · subst e
            rw [za_u_same, if_pos (Nat.lt_succ_self i), bd_jn, if_neg hb, hrow]
          · rw [za_u_i e, h1 i hi]
            by_cases e2 : i < k
            · rw [if_pos e2, if_pos (by omega)]
            · rw [if_neg e2, if_neg (by omega)]
        · simp only [za_u]
          rw [if_neg (fun q => absurd q.1 (by decide))]
          exact h2
  have hcv : (nI v).toNatClampNeg = v := zn_cl (by omega)
  refine run [25] 40 0 _ _ _ _ ?_
  refine ⟨zn_in hv (by decide), fun hb => ?_, fun hb => ?_⟩
  · rw [hcv] at hb ⊢
    exact loop 32 0 μ rfl (fun i _ => by rw [if_neg (Nat.not_lt_zero i)]) (by rw [if_pos hb]) zq_rf
  · rw [hcv] at hb ⊢
    refine ⟨Or.inr rfl, ?_⟩
    refine loop 32 0 _ rfl (fun i _ => ?_) ?_ (zq_u zq_rf ⟨Or.inl rfl, rfl⟩)
    · show za_u μ.1 18 J 1 1 19 J i = _
      rw [za_u_b (by decide), if_neg (Nat.not_lt_zero i)]
    · show za_u μ.1 18 J 1 1 18 J 1 = _
      rw [za_u_same, if_neg hb]
