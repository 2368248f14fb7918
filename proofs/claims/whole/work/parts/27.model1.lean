/-! the reference: its small methods -/
theorem ct_M_thrown {Γ : zk_G} {d : Nat} {μ : za_M} (hd : 1 ≤ d) : zk_Ct zt Γ zm_M_thrown d 0 0 [za_r 30 0] μ (fun r μ' => r = some (za_i (μ.1 30 0 0)) ∧ μ' = μ) (fun _ _ => False) := by
  refine zs_M_thrown (Nat.le_of_ble_eq_true rfl) hd (fun ZZ run => ?_)
  refine run [] 20 0 _ _ _ _ ?_
  exact ⟨rfl, Or.inl rfl, Nat.le_refl _, Nat.le_refl _, rfl, rfl⟩
theorem ct_M_in {Γ : zk_G} {d : Nat} {v lo hi : Int32} {μ : za_M} (hd : 1 ≤ d) : zk_Ct zt Γ zm_M_in d 0 0 [za_i v, za_i lo, za_i hi] μ (fun r μ' => r = some (za_i (if v < lo ∨ hi < v then 0 else 1)) ∧ μ' = μ) (fun _ _ => False) := by
  refine zs_M_in (Nat.le_of_ble_eq_true rfl) hd (fun ZZ run => ?_)
  refine run [] 20 0 _ _ _ _ ?_
  refine ⟨fun h => ?_, fun h => ⟨fun h2 => ?_, fun h2 => ?_⟩⟩
  · exact ⟨rfl, Or.inr ⟨rfl, Or.inl rfl⟩, Nat.le_refl _, Nat.le_refl _, by rw [if_pos (Or.inl h)], rfl⟩
  · exact ⟨rfl, Or.inr ⟨rfl, Or.inl rfl⟩, Nat.le_refl _, Nat.le_refl _, by rw [if_pos (Or.inr h2)], rfl⟩
  · exact ⟨rfl, Or.inr ⟨rfl, Or.inr rfl⟩, Nat.le_refl _, Nat.le_refl _, by rw [if_neg (fun q => q.elim h h2)], rfl⟩
/-- what a refusal notes -/
def mo_t (a b : Int32) : Int32 := if a = 0 then (if b = 0 then 0 else 2) else 1
theorem ct_M_refuse {Γ : zk_G} {d : Nat} {a b : Int32} {μ : za_M} (hd : 1 ≤ d) : zk_Ct zt Γ zm_M_refuse d 0 0 [za_r 30 0, za_i a, za_i b] μ (fun r μ' => r = some (za_i (if mo_t a b = 0 then 0 else 1)) ∧ μ' = (za_u μ.1 30 0 0 (mo_t a b), μ.2)) (fun _ _ => False) := by
  refine zs_M_refuse (Nat.le_of_ble_eq_true rfl) hd (fun ZZ run => ?_)
  refine run [] 30 0 _ _ _ _ ?_
  refine ⟨fun h => ⟨fun h2 => ?_, fun h2 => ?_⟩, fun h => ?_⟩
  · refine ⟨fun _ => ?_, fun q => absurd ?_ q⟩
    · exact ⟨rfl, Or.inr ⟨rfl, Or.inl rfl⟩, Nat.le_refl _, Nat.le_refl _, by rw [mo_t, if_pos h, if_pos h2]; rfl, by rw [mo_t, if_pos h, if_pos h2]⟩
    · simp [za_u]
  · refine ⟨fun q => absurd q ?_, fun _ => ?_⟩
    · dsimp only
      rw [za_u_same]
      decide
    · exact ⟨rfl, Or.inr ⟨rfl, Or.inr rfl⟩, Nat.le_refl _, Nat.le_refl _, by rw [mo_t, if_pos h, if_neg h2]; rfl, by rw [mo_t, if_pos h, if_neg h2]⟩
  · refine ⟨fun q => absurd q ?_, fun _ => ?_⟩
    · dsimp only
      rw [za_u_same]
      decide
    · exact ⟨rfl, Or.inr ⟨rfl, Or.inr rfl⟩, Nat.le_refl _, Nat.le_refl _, by rw [mo_t, if_neg h]; rfl, by rw [mo_t, if_neg h]⟩
theorem ct_M_forget {Γ : zk_G} {d : Nat} {μ : za_M} (hd : 1 ≤ d) : zk_Ct zt Γ zm_M_forget d 0 0 [za_r 30 0] μ (fun r μ' => r = none ∧ μ' = (za_u (za_u μ.1 30 0 7 0) 30 0 14 0, μ.2)) (fun _ _ => False) := by
  refine zs_M_forget (Nat.le_of_ble_eq_true rfl) hd (fun ZZ run => ?_)
  refine run [] 20 0 _ _ _ _ ?_
  exact ⟨Or.inl rfl, Or.inl rfl, rfl, rfl, Nat.le_refl _, Nat.le_refl _, rfl, rfl⟩
theorem ct_M_isSymbol {Γ : zk_G} {d : Nat} {s : Int32} {μ : za_M} (hd : 2 ≤ d) : zk_Ct zt Γ zm_M_isSymbol d 0 0 [za_r 30 0, za_i s] μ (fun r μ' => r = some (za_i (if s < 0 ∨ μ.1 30 0 1 - 1 < s then 0 else 1)) ∧ μ' = μ) (fun _ _ => False) := by
  refine zs_M_isSymbol (Nat.le_of_ble_eq_true rfl) (by omega) (fun ZZ run => ?_)
  refine run [] 20 0 _ _ _ _ ?_
  refine ⟨d - 1, 0, 0, _, _, by omega, Nat.le_refl _, Nat.le_refl _, ct_M_in (by omega), ?_, fun _ _ h => h.elim⟩
  rintro r μ1 ⟨rfl, rfl⟩
  refine ⟨rfl, Or.inr ⟨rfl, ?_⟩, Nat.le_refl _, Nat.le_refl _, rfl, rfl⟩
  split
  · exact Or.inl rfl
  · exact Or.inr rfl
theorem ct_M_isDown {Γ : zk_G} {d : Nat} {s a : Int32} {μ : za_M} (hd : 1 ≤ d) (hs : vp_in s 8) : zk_Ct zt Γ zm_M_isDown d 0 0 [za_r 30 0, za_i s, za_i a] μ (fun r μ' => r = some (za_i (if (μ.1 32 0 s.toNatClampNeg >>> (a &&& 31)) &&& 1 = 1 then 1 else 0)) ∧ μ' = μ) (fun _ _ => False) := by
  refine zs_M_isDown (Nat.le_of_ble_eq_true rfl) hd (fun ZZ run => ?_)
  refine run [] 20 0 _ _ _ _ ?_
  refine ⟨hs, fun h => ?_, fun h => ?_⟩
  · exact ⟨rfl, Or.inr ⟨rfl, Or.inl rfl⟩, Nat.le_refl _, Nat.le_refl _, by rw [if_neg h], rfl⟩
  · exact ⟨rfl, Or.inr ⟨rfl, Or.inr rfl⟩, Nat.le_refl _, Nat.le_refl _, by rw [if_pos h], rfl⟩
theorem ct_M_symbolOf {Γ : zk_G} {d : Nat} {p o : Int32} {μ : za_M} (hd : 2 ≤ d) (hs : ¬ (o < 0 ∨ 3 < o) → vp_in (4 * p + o) 64) : zk_Ct zt Γ zm_M_symbolOf d 0 0 [za_r 30 0, za_i p, za_i o] μ (fun r μ' => r = some (za_i (if o < 0 ∨ 3 < o then -1 else μ.1 33 0 (4 * p + o).toNatClampNeg)) ∧ μ' = μ) (fun _ _ => False) := by
  refine zs_M_symbolOf (Nat.le_of_ble_eq_true rfl) (by omega) (fun ZZ run => ?_)
  refine run [] 20 0 _ _ _ _ ?_
  refine ⟨d - 1, 0, 0, _, _, by omega, Nat.le_refl _, Nat.le_refl _, ct_M_in (by omega), ?_, fun _ _ h => h.elim⟩
  rintro r μ1 ⟨rfl, rfl⟩
  by_cases h : o < 0 ∨ 3 < o
  · rw [if_pos h, if_pos h]
    exact ⟨fun _ => ⟨rfl, Or.inl rfl, Nat.le_refl _, Nat.le_refl _, rfl, rfl⟩, fun q => absurd rfl q⟩
  · rw [if_neg h, if_neg h]
    exact ⟨fun q => absurd q (by decide), fun _ => ⟨hs h, rfl, Or.inl rfl, Nat.le_refl _, Nat.le_refl _, rfl, rfl⟩⟩
set_option maxHeartbeats 4000000 in
theorem ct_M_takeDepends {Γ : zk_G} {d p : Nat} {x : Int32} {μ : za_M} (hx : x = nI p) (hd : 1 ≤ d) (hp : p < 16) : zk_Ct zt Γ zm_M_takeDepends d 0 0 [za_r 30 0, za_i x] μ (fun r μ' => r = none ∧ (∀ i, i < 32 → μ'.1 38 0 i = μ.1 34 0 (32 * p + i)) ∧ zq_fr (fun b j => b = 38 ∧ j = 0) μ μ') (fun _ _ => False) := by
  refine zs_M_takeDepends (Nat.le_of_ble_eq_true rfl) hd (fun ZZ run => ?_)
  have loop := zn_for (σ := za_M) (N := 32)
    (P := fun k μ1 => ∀ y : Int32, y = nI k → ZZ 2 [some (za_r 30 0), some (za_i x), some (za_i y)] [] μ1 (0, 0))
    (I := fun k μ1 => (∀ i, i < k → μ1.1 38 0 i = μ.1 34 0 (32 * p + i)) ∧ zq_fr (fun b j => b = 38 ∧ j = 0) μ μ1)
    (fun μ1 h y hy => by
      refine run [2] 40 2 _ _ _ _ ?_
      refine ⟨fun _ => ?_, fun q => absurd (by rw [hy]; exact nI_le (Nat.le_refl 32) (by decide)) q⟩
      exact ⟨rfl, rfl, Nat.le_refl _, Nat.le_refl _, rfl, h⟩)
    (fun k μ1 hk h ih y hy => by
      refine run [2] 40 2 _ _ _ _ ?_
      refine ⟨fun q => absurd q (zn_ge hy rfl hk (by decide)), fun _ => ?_⟩
      have hi : (32 : Int32) * x + y = nI (32 * p + k) := by rw [hx, hy, show (32 : Int32) * nI p = nI (32 * p) from pk_mul 32 p, nI_add]
      have hc : ((32 : Int32) * x + y).toNatClampNeg = 32 * p + k := zn_c hi (by omega)
      have hck : y.toNatClampNeg = k := zn_c hy (by omega)
      refine ⟨zn_i hi (by omega) (by decide), zn_i hy hk (by decide), ?_⟩
      refine ih _ ⟨fun i hi2 => ?_, zq_u h.2 ⟨rfl, rfl⟩⟩ _ (zn_s hy)
      dsimp only
      rw [hck, hc]
      by_cases e : i = k
      · subst e
        rw [za_u_same, (h.2.1 34 0 (fun q => absurd q.1 (by decide)))]
      · rw [za_u_i e]
        exact h.1 i (by omega))
  refine run [2] 40 0 _ _ _ _ ?_
  exact loop 0 μ (Nat.zero_le _) ⟨fun i hi => absurd hi (Nat.not_lt_zero i), zq_rf⟩ 0 rfl
