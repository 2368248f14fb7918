theorem ct_A_firstBits {Γ : zk_G} {d : Nat} {n : Int32} {μ : za_M} (hd : 1 ≤ d) : zk_Ct zt Γ zm_A_firstBits d 0 0 [za_i n] μ (fun r μ' => r = some (za_i ((1 <<< (n &&& 31)) - 1)) ∧ μ' = μ) (fun _ _ => False) := by
  refine zs_A_firstBits (Nat.le_of_ble_eq_true rfl) hd (fun ZZ run => ?_)
  refine run [] 10 0 _ _ _ _ ?_
  exact ⟨rfl, Or.inl rfl, Nat.le_refl _, Nat.le_refl _, rfl, rfl⟩
theorem ct_A_rowOf {Γ : zk_G} {d : Nat} {n : Int32} {r : Int64} {μ : za_M} (hd : 1 ≤ d) : zk_Ct zt Γ zm_A_rowOf d 0 0 [za_l r, za_i n] μ (fun v μ' => v = some (za_i ((r.toUInt64 >>> ((8 * n).toInt64.toUInt64 &&& Int64.toUInt64 63)).toInt64.toInt32 &&& 255)) ∧ μ' = μ) (fun _ _ => False) := by
  refine zs_A_rowOf (Nat.le_of_ble_eq_true rfl) hd (fun ZZ run => ?_)
  refine run [] 20 0 _ _ _ _ ?_
  exact ⟨rfl, Or.inl rfl, Nat.le_refl _, Nat.le_refl _, rfl, rfl⟩
theorem ct_A_hasBit {Γ : zk_G} {d : Nat} {x i : Int32} {μ : za_M} (hd : 1 ≤ d) : zk_Ct zt Γ zm_A_hasBit d 0 0 [za_i x, za_i i] μ (fun v μ' => v = some (za_i (if ((x.toUInt32 >>> (i.toUInt32 &&& Int32.toUInt32 31)).toInt32 &&& 1) = 0 then 0 else 1)) ∧ μ' = μ) (fun _ _ => False) := by
  refine zs_A_hasBit (Nat.le_of_ble_eq_true rfl) hd (fun ZZ run => ?_)
  refine run [] 20 0 _ _ _ _ ?_
  refine ⟨fun h => ?_, fun h => ?_⟩
  · exact ⟨rfl, Or.inr ⟨rfl, Or.inl rfl⟩, Nat.le_refl _, Nat.le_refl _, by rw [if_pos h], rfl⟩
  · exact ⟨rfl, Or.inr ⟨rfl, Or.inr rfl⟩, Nat.le_refl _, Nat.le_refl _, by rw [if_neg h], rfl⟩
theorem ct_G_all {Γ : zk_G} {d : Nat} {s : Int32} {μ : za_M} (hd : 2 ≤ d) (hs : vp_in s 8) : zk_Ct zt Γ zm_G_all d 0 0 [za_r 1 0, za_i s] μ (fun v μ' => v = some (za_i ((1 <<< (μ.1 2 0 s.toNatClampNeg &&& 31)) - 1)) ∧ μ' = μ) (fun _ _ => False) := by
  refine zs_G_all (Nat.le_of_ble_eq_true rfl) (by omega) (fun ZZ run => ?_)
  refine run [] 20 0 _ _ _ _ ?_
  refine ⟨hs, d - 1, 0, 0, _, _, by omega, Nat.le_refl _, Nat.le_refl _, ct_A_firstBits (by omega), ?_, fun _ _ h => h.elim⟩
  rintro r μ1 ⟨rfl, rfl⟩
  exact ⟨rfl, Or.inl rfl, Nat.le_refl _, Nat.le_refl _, rfl, rfl⟩
