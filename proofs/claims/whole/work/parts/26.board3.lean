/-! Board: join, relationAt -/
theorem bd_jn_congr {r r' : Nat → Int32} {v : Nat} (h : ∀ i, i < 32 → r i = r' i) (hv : v < 32) : ∀ i, i < 32 → bd_jn r v i = bd_jn r' v i := by
  intro i hi
  simp only [bd_jn, h i hi, h v hv]
theorem ct_B_joinAt' {Γ : zk_G} {d J v : Nat} {μ : za_M} {x : Int32} (hx : x = nI v) (hd : 1 ≤ d) (hv : v < 32) : zk_Ct zt Γ zm_B_joinAt d 0 0 [za_r 18 J, za_i x] μ
    (fun r μ' => r = none ∧ (∀ i, i < 32 → μ'.1 19 J i = bd_jn (μ.1 19 J) v i) ∧ (μ'.1 18 J 1 = if μ.1 19 J v &&& (1 <<< (nI v &&& 31)) = 0 then μ.1 18 J 1 else 1) ∧ zq_fr (fun b j => (b = 18 ∨ b = 19) ∧ j = J) μ μ') (fun _ _ => False) := by
  subst hx
  exact ct_B_joinAt hd hv
/-- rows and circle behind the first k places of an occurrence -/
def bd_jk (r : Nat → Int32) (o : Nat) : Nat → Nat → Int32
  | 0 => r
  | k + 1 => if bd_jk r o k (8 * o + k) = 0 then bd_jk r o k else bd_jn (bd_jk r o k) (8 * o + k)
def bd_ck (r : Nat → Int32) (o : Nat) (c : Int32) : Nat → Int32
  | 0 => c
  | k + 1 => if bd_jk r o k (8 * o + k) = 0 then bd_ck r o c k else if bd_jk r o k (8 * o + k) &&& (1 <<< (nI (8 * o + k) &&& 31)) = 0 then bd_ck r o c k else 1
set_option maxHeartbeats 4000000 in
theorem ct_B_join {Γ : zk_G} {d J o : Nat} {μ : za_M} (hd : 2 ≤ d) (ho : o < 4) : zk_Ct zt Γ zm_B_join d 0 0 [za_r 18 J, za_i (nI o)] μ
    (fun r μ' => r = none ∧ (∀ i, i < 32 → μ'.1 19 J i = bd_jk (μ.1 19 J) o 6 i) ∧ μ'.1 18 J 1 = bd_ck (μ.1 19 J) o (μ.1 18 J 1) 6 ∧ zq_fr (fun b j => (b = 18 ∨ b = 19) ∧ j = J) μ μ') (fun _ _ => False) := by
  refine zs_B_join (Nat.le_of_ble_eq_true rfl) (by omega) (fun ZZ run => ?_)
  have loop := zn_for (σ := za_M) (N := 6)
    (P := fun k μ1 => ∀ w x : Int32, w = nI (8 * o) → x = nI k → ZZ 7 [some (za_r 18 J), some (za_i (nI o)), some (za_i w), some (za_i x)] [] μ1 (0, 0))
    (I := fun k μ1 => (∀ i, i < 32 → μ1.1 19 J i = bd_jk (μ.1 19 J) o k i) ∧ μ1.1 18 J 1 = bd_ck (μ.1 19 J) o (μ.1 18 J 1) k ∧ zq_fr (fun b j => (b = 18 ∨ b = 19) ∧ j = J) μ μ1)
    (fun μ1 h w x hw hx => by
      refine run [7] 40 7 _ _ _ _ ?_
      refine ⟨fun _ => ?_, fun q => absurd (by rw [hx]; exact nI_le (Nat.le_refl 6) (by decide)) q⟩
      exact ⟨rfl, rfl, Nat.le_refl _, Nat.le_refl _, rfl, h⟩)
    (fun k μ1 hk h ih w x hw hx => by
      refine run [7] 40 7 _ _ _ _ ?_
      refine ⟨fun q => absurd q (zn_ge hx rfl hk (by decide)), fun _ => ?_⟩
      have hwx : w + x = nI (8 * o + k) := by rw [hw, hx, nI_add]
      have hc : (w + x).toNatClampNeg = 8 * o + k := zn_c hwx (by omega)
      have hlt : 8 * o + k < 32 := by omega
      have hr := h.1 _ hlt
      refine ⟨zn_i hwx hlt (by decide), fun hz => ?_, fun hz => ?_⟩
      · rw [hc, hr] at hz
        refine ih μ1 ⟨fun i hi => ?_, ?_, h.2.2⟩ w _ hw (zn_s hx)
        · rw [h.1 i hi, bd_jk, if_pos hz]
        · rw [h.2.1, bd_ck, if_pos hz]
      · rw [hc, hr] at hz
        refine ⟨d - 1, 0, 0, _, _, by omega, Nat.le_refl _, Nat.le_refl _, ct_B_joinAt' hwx (by omega) hlt, ?_, fun _ _ h => h.elim⟩
        rintro r μ2 ⟨rfl, h1, h2, h3⟩
        refine ih μ2 ⟨fun i hi => ?_, ?_, zq_tr h.2.2 h3⟩ w _ hw (zn_s hx)
        · rw [h1 i hi, bd_jk, if_neg hz]
          exact bd_jn_congr h.1 hlt i hi
        · rw [h2, hr, h.2.1, bd_ck, if_neg hz])
  refine run [7] 40 0 _ _ _ _ ?_
  exact loop 0 μ (Nat.zero_le _) ⟨fun i hi => rfl, rfl, zq_rf⟩ (8 * nI o) 0 (zn_8 o) rfl
/-- a relation out of rows: the first k bytes -/
def bd_rk (r : Nat → Int32) (o : Nat) : Nat → Int64
  | 0 => 0
  | k + 1 => bd_rk r o k ||| (((r (8 * o + k)).toUInt32 >>> ((nI (8 * o)).toUInt32 &&& Int32.toUInt32 31)).toInt32 &&& 255).toInt64 <<< ((8 * nI k).toInt64 &&& 63)
set_option maxHeartbeats 4000000 in
theorem ct_B_relationAt {Γ : zk_G} {d J o : Nat} {μ : za_M} (hd : 1 ≤ d) (ho : o < 4) : zk_Ct zt Γ zm_B_relationAt d 0 0 [za_r 18 J, za_i (nI o)] μ
    (fun r μ' => r = some (za_l (bd_rk (μ.1 19 J) o 6)) ∧ μ' = μ) (fun _ _ => False) := by
  refine zs_B_relationAt (Nat.le_of_ble_eq_true rfl) (by omega) (fun ZZ run => ?_)
  have loop := zn_for (σ := Int64 × Option za_V) (N := 6)
    (P := fun k s => ∀ w x : Int32, w = nI (8 * o) → x = nI k → ZZ 10 [some (za_r 18 J), some (za_i (nI o)), some (za_i w), some (za_l s.1), none, some (za_i x), s.2, none] [] μ (0, 0))
    (I := fun k s => s.1 = bd_rk (μ.1 19 J) o k)
    (fun s h w x hw hx => by
      refine run [10] 40 10 _ _ _ _ ?_
      refine ⟨fun _ => ?_, fun q => absurd (by rw [hx]; exact nI_le (Nat.le_refl 6) (by decide)) q⟩
      exact ⟨rfl, rfl, Nat.le_refl _, Nat.le_refl _, by rw [← h], rfl⟩)
    (fun k s hk h ih w x hw hx => by
      refine run [10] 40 10 _ _ _ _ ?_
      refine ⟨fun q => absurd q (zn_ge hx rfl hk (by decide)), fun _ => ?_⟩
      have hwx : w + x = nI (8 * o + k) := by rw [hw, hx, nI_add]
      have hc : (w + x).toNatClampNeg = 8 * o + k := zn_c hwx (by omega)
      refine ⟨zn_i hwx (by omega) (by decide), ?_⟩
      have h9 := ih (s.1 ||| (((μ.1 19 J (w + x).toNatClampNeg).toUInt32 >>> (w.toUInt32 &&& Int32.toUInt32 31)).toInt32 &&& 255).toInt64 <<< ((8 * x).toInt64 &&& 63), some (za_l (((μ.1 19 J (w + x).toNatClampNeg).toUInt32 >>> (w.toUInt32 &&& Int32.toUInt32 31)).toInt32 &&& 255).toInt64)) (by rw [h, hc, hw, hx]; rfl) w (x + 1) hw (zn_s hx)
      exact h9)
  refine run [10] 40 0 _ _ _ _ ?_
  exact loop 0 (0, none) (Nat.zero_le _) rfl (8 * nI o) 0 (zn_8 o) rfl
