/-! Board, the rest -/
theorem ct_B_start {Γ : zk_G} {d J p : Nat} {μ : za_M} (hd : 1 ≤ d) : zk_Ct zt Γ zm_B_start d 0 0 [za_r 18 J, za_r 8 p] μ
    (fun r μ' => r = none ∧ (∀ i, i < 32 → μ'.1 19 J i = μ.1 8 p i) ∧ μ'.1 18 J 1 = 0 ∧ zq_fr (fun b j => (b = 18 ∨ b = 19) ∧ j = J) μ μ') (fun _ _ => False) := by
  refine zs_B_start (Nat.le_of_ble_eq_true rfl) hd (fun ZZ run => ?_)
  refine run [] 20 0 _ _ _ _ ?_
  refine ⟨by decide, by decide, by decide, by decide, by decide, Nat.zero_le _, Or.inl rfl, rfl, rfl, Nat.le_refl _, Nat.le_refl _, rfl, fun i hi => ?_, ?_, ?_⟩
  · dsimp only
    rw [za_u_b (show (19 : Nat) ≠ 18 by decide), za_ur_at]
    rw [pk_cpy_in (by rw [zn_c0]; omega) (by rw [zn_c0]; show i < 0 + (32 : Int32).toNatClampNeg; rw [zn_c32]; omega)]
    rw [zn_c0, Nat.sub_zero, Nat.zero_add]
  · exact za_u_same _ _ _ _ _
  · refine ⟨fun b j h => ?_, fun _ _ _ => rfl⟩
    dsimp only
    rw [za_u_ne (fun q => h ⟨Or.inl q.1, q.2⟩), za_ur_ne (fun q => h ⟨Or.inr q.1, q.2⟩)]
theorem ct_B_startFrom {Γ : zk_G} {d J J' : Nat} {μ : za_M} (hd : 1 ≤ d) (hc : μ.1 18 J' 1 = 0 ∨ μ.1 18 J' 1 = 1) (hne : J ≠ J') : zk_Ct zt Γ zm_B_startFrom d 0 0 [za_r 18 J, za_r 18 J'] μ
    (fun r μ' => r = none ∧ (∀ i, i < 32 → μ'.1 19 J i = μ.1 19 J' i) ∧ μ'.1 18 J 1 = μ.1 18 J' 1 ∧ zq_fr (fun b j => (b = 18 ∨ b = 19) ∧ j = J) μ μ') (fun _ _ => False) := by
  refine zs_B_startFrom (Nat.le_of_ble_eq_true rfl) hd (fun ZZ run => ?_)
  refine run [] 20 0 _ _ _ _ ?_
  have hk : ∀ r : Nat → Int32, za_ur μ.1 19 J r 18 J' 1 = μ.1 18 J' 1 := fun r => by
    rw [za_ur_ne (fun q => absurd q.1 (by decide))]
  refine ⟨by decide, by decide, by decide, by decide, by decide, Nat.zero_le _, ?_, rfl, rfl, Nat.le_refl _, Nat.le_refl _, rfl, fun i hi => ?_, ?_, ?_⟩
  · dsimp only
    rw [hk]
    exact hc
  · dsimp only
    rw [za_u_b (show (19 : Nat) ≠ 18 by decide), za_ur_at]
    rw [pk_cpy_in (by rw [zn_c0]; omega) (by rw [zn_c0]; show i < 0 + (32 : Int32).toNatClampNeg; rw [zn_c32]; omega)]
    rw [zn_c0, Nat.sub_zero, Nat.zero_add]
  · dsimp only
    rw [za_u_same, hk]
  · refine ⟨fun b j h => ?_, fun _ _ _ => rfl⟩
    dsimp only
    rw [za_u_ne (fun q => h ⟨Or.inl q.1, q.2⟩), za_ur_ne (fun q => h ⟨Or.inr q.1, q.2⟩)]
/-- a relation's byte -/
def rw_of (rel : Int64) (a : Nat) : Int32 := (rel.toUInt64 >>> ((8 * nI a).toInt64.toUInt64 &&& Int64.toUInt64 63)).toInt64.toInt32 &&& 255
def bd_lay (r : Nat → Int32) (o : Nat) (rel : Int64) (i : Nat) : Int32 := if 8 * o ≤ i ∧ i < 8 * o + 6 then r i ||| (rw_of rel (i - 8 * o) <<< (nI (8 * o) &&& 31)) else r i
set_option maxHeartbeats 4000000 in
theorem ct_B_lay {Γ : zk_G} {d J o : Nat} {rel : Int64} {μ : za_M} (hd : 2 ≤ d) (ho : o < 4) : zk_Ct zt Γ zm_B_lay d 0 0 [za_r 18 J, za_i (nI o), za_l rel] μ
    (fun r μ' => r = none ∧ (∀ i, i < 32 → μ'.1 19 J i = bd_lay (μ.1 19 J) o rel i) ∧ zq_fr (fun b j => b = 19 ∧ j = J) μ μ') (fun _ _ => False) := by
  refine zs_B_lay (Nat.le_of_ble_eq_true rfl) (by omega) (fun ZZ run => ?_)
  have loop := zn_for (σ := za_M) (N := 6)
    (P := fun k μ1 => ∀ w x : Int32, w = nI (8 * o) → x = nI k → ZZ 9 [some (za_r 18 J), some (za_i (nI o)), some (za_l rel), none, some (za_i w), some (za_i x)] [] μ1 (0, 0))
    (I := fun k μ1 => (∀ i, i < 32 → μ1.1 19 J i = if i < 8 * o + k then bd_lay (μ.1 19 J) o rel i else μ.1 19 J i) ∧ zq_fr (fun b j => b = 19 ∧ j = J) μ μ1)
    (fun μ1 h w x hw hx => by
      refine run [9] 40 9 _ _ _ _ ?_
      refine ⟨fun _ => ?_, fun q => absurd (by rw [hx]; exact nI_le (Nat.le_refl 6) (by decide)) q⟩
      refine ⟨rfl, rfl, Nat.le_refl _, Nat.le_refl _, rfl, fun i hi => ?_, h.2⟩
      rw [h.1 i hi]
      by_cases e : i < 8 * o + 6
      · rw [if_pos e]
      · rw [if_neg e, bd_lay, if_neg (fun q => e q.2)])
    (fun k μ1 hk h ih w x hw hx => by
      refine run [9] 40 9 _ _ _ _ ?_
      refine ⟨fun q => absurd q (zn_ge hx rfl hk (by decide)), fun _ => ?_⟩
      have hwx : w + x = nI (8 * o + k) := by rw [hw, hx, nI_add]
      refine ⟨zn_i hwx (by omega) (by decide), d - 1, 0, 0, _, _, by omega, Nat.le_refl _, Nat.le_refl _, ct_A_rowOf (by omega), ?_, fun _ _ h => h.elim⟩
      rintro r μ2 ⟨rfl, rfl⟩
      refine ⟨zn_i hwx (by omega) (by decide), ?_⟩
      have hc : (w + x).toNatClampNeg = 8 * o + k := zn_c hwx (by omega)
      refine ih _ ⟨fun i hi => ?_, zq_u h.2 ⟨rfl, rfl⟩⟩ w _ hw (zn_s hx)
      simp only [hc]
      by_cases e : i = 8 * o + k
      · subst e
        rw [za_u_same, h.1 _ hi, if_neg (Nat.lt_irrefl _), if_pos (by omega), bd_lay, if_pos ⟨by omega, by omega⟩, rw_of, show 8 * o + k - 8 * o = k by omega, hx, hw]
      · rw [za_u_i e, h.1 i hi]
        by_cases e2 : i < 8 * o + k
        · rw [if_pos e2, if_pos (by omega)]
        · rw [if_neg e2, if_neg (by omega)])
  refine run [9] 40 0 _ _ _ _ ?_
  refine loop 0 μ (Nat.zero_le _) ⟨fun i hi => ?_, zq_rf⟩ (8 * nI o) 0 (zn_8 o) rfl
  by_cases e : i < 8 * o + 0
  · rw [if_pos e, bd_lay, if_neg (fun q => by omega)]
  · rw [if_neg e]
