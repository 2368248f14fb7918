/-! the class: Numbering, small methods -/
theorem za_ix8 (J i : Nat) : za_ix J 8 i = 8 * J + i := by
  cases J with
  | zero => show i = 8 * 0 + i; omega
  | succ j => rfl
theorem fb_bt : ∀ n, n < 32 → ∀ i, i < 32 → bt ((1 <<< (nI n &&& 31)) - 1) i = decide (i < n) := by decide +kernel
theorem pb_bt : ∀ o, o < 4 → ∀ y, y < 32 → bt (255 ||| (((-1 : Int32) <<< ((8 * nI o) &&& 31)) <<< ((8 : Int32) &&& 31))) y = decide (y < 8 ∨ o < y / 8) := by decide +kernel
set_option maxHeartbeats 4000000 in
theorem ct_G_placesOf27 {Γ : zk_G} {d p J : Nat} {x : Int32} {μ : za_M} {g : gq_G} (hg : gq_ok g) (hC : gq_C g μ) (hx : x = nI p) (hp : p < gq_np g) (h8 : ∀ s, s < gq_ns g → ∀ a, bt (μ.1 27 J s) a = true → a < 8) (hd : 1 ≤ d) : zk_Ct zt Γ zm_G_placesOf d 0 0 [za_r 1 0, za_i x, za_r 27 J] μ (fun r μ' => (∃ w : Int32, r = some (za_i w) ∧ ∀ z, bt w z = true ↔ (z < 32 ∧ z / 8 ≤ gq_m g p ∧ bt (μ.1 27 J (gq_sy g p (z / 8))) (z % 8) = true)) ∧ μ' = μ) (fun _ _ => False) := by
  obtain ⟨c1, c2, c3, c4, c5, c6⟩ := gq_Cp hg hC hx hp
  have hm := (hg.2.2.2.2.1 p hp).1
  refine zs_G_placesOf (Nat.le_of_ble_eq_true rfl) hd (fun ZZ run => ?_)
  have loop := zn_for (σ := Int32) (N := gq_m g p + 1)
    (P := fun k w => ∀ y : Int32, y = nI k → ZZ 5 [some (za_r 1 0), some (za_i x), some (za_r 27 J), some (za_i w), some (za_i y)] [] μ (0, 0))
    (I := fun k w => ∀ z, bt w z = true ↔ (z < 32 ∧ z / 8 < k ∧ bt (μ.1 27 J (gq_sy g p (z / 8))) (z % 8) = true))
    (fun w h y hy => by
      refine run [5] 40 5 _ _ _ _ ?_
      refine ⟨c2, fun _ => ?_, fun q => absurd (zn_lt2 c4 hy (Nat.lt_succ_self _) (by omega)) q⟩
      refine ⟨rfl, Or.inl rfl, Nat.le_refl _, Nat.le_refl _, ⟨w, rfl, fun z => (h z).trans ⟨fun q => ⟨q.1, by omega, q.2.2⟩, fun q => ⟨q.1, by omega, q.2.2⟩⟩⟩, rfl⟩)
    (fun k w hk h ih y hy => by
      have hck : y.toNatClampNeg = k := zn_c hy (by omega)
      have hs : μ.1 6 x.toNatClampNeg y.toNatClampNeg = nI (gq_sy g p k) := by rw [hck]; exact c5 k (by omega)
      have hs8 := gq_sy8 hg hp (show k ≤ gq_m g p by omega)
      have hsn := (hg.2.2.2.2.1 p hp).2 k (by omega)
      refine run [5] 40 5 _ _ _ _ ?_
      refine ⟨c2, fun q => absurd q (zn_nl c4 hy (by omega) (by omega)), fun _ => ⟨c2, zn_i hy (by omega) (by decide), zn_i hs hs8 (by decide), ?_⟩⟩
      refine ih _ (fun z => ?_) _ (zn_s hy)
      have e3 : (8 : Int32) * y = nI (8 * k) := by rw [hy, zn_8]
      show bt (w ||| (μ.1 27 J (μ.1 6 x.toNatClampNeg y.toNatClampNeg).toNatClampNeg <<< ((8 : Int32) * y &&& 31))) z = true ↔ _
      rw [zn_c hs (by omega), e3, b_or, Bool.or_eq_true, h z]
      by_cases hz : z < 32
      · rw [bt_shl8 _ (by omega) hz, Bool.and_eq_true, decide_eq_true_eq]
        constructor
        · rintro (⟨q1, q2, q3⟩ | ⟨q1, q2⟩)
          · exact ⟨q1, by omega, q3⟩
          · have := h8 _ hsn _ q2
            have e : z / 8 = k := by omega
            refine ⟨hz, by omega, ?_⟩
            rw [e, show z % 8 = z - 8 * k by omega]
            exact q2
        · rintro ⟨q1, q2, q3⟩
          by_cases e : z / 8 = k
          · refine Or.inr ⟨by omega, ?_⟩
            rw [e] at q3
            rw [show z - 8 * k = z % 8 by omega]
            exact q3
          · exact Or.inl ⟨q1, by omega, q3⟩
      · constructor
        · rintro (q | q)
          · omega
          · rw [b_big (Nat.le_of_not_lt hz)] at q
            cases q
        · intro q; omega)
  refine run [5] 40 0 _ _ _ _ ?_
  exact loop 0 0 (Nat.zero_le _) (fun z => ⟨fun q => (by rw [b_0] at q; cases q), fun q => absurd q.2.1 (Nat.not_lt_zero _)⟩) 0 rfl
set_option maxHeartbeats 4000000 in
theorem ct_G_placesOf28 {Γ : zk_G} {d p J : Nat} {x : Int32} {μ : za_M} {g : gq_G} (hg : gq_ok g) (hC : gq_C g μ) (hx : x = nI p) (hp : p < gq_np g) (h8 : ∀ s, s < gq_ns g → ∀ a, bt (μ.1 28 J s) a = true → a < 8) (hd : 1 ≤ d) : zk_Ct zt Γ zm_G_placesOf d 0 0 [za_r 1 0, za_i x, za_r 28 J] μ (fun r μ' => (∃ w : Int32, r = some (za_i w) ∧ ∀ z, bt w z = true ↔ (z < 32 ∧ z / 8 ≤ gq_m g p ∧ bt (μ.1 28 J (gq_sy g p (z / 8))) (z % 8) = true)) ∧ μ' = μ) (fun _ _ => False) := by
  obtain ⟨c1, c2, c3, c4, c5, c6⟩ := gq_Cp hg hC hx hp
  have hm := (hg.2.2.2.2.1 p hp).1
  refine zs_G_placesOf (Nat.le_of_ble_eq_true rfl) hd (fun ZZ run => ?_)
  have loop := zn_for (σ := Int32) (N := gq_m g p + 1)
    (P := fun k w => ∀ y : Int32, y = nI k → ZZ 5 [some (za_r 1 0), some (za_i x), some (za_r 28 J), some (za_i w), some (za_i y)] [] μ (0, 0))
    (I := fun k w => ∀ z, bt w z = true ↔ (z < 32 ∧ z / 8 < k ∧ bt (μ.1 28 J (gq_sy g p (z / 8))) (z % 8) = true))
    (fun w h y hy => by
      refine run [5] 40 5 _ _ _ _ ?_
      refine ⟨c2, fun _ => ?_, fun q => absurd (zn_lt2 c4 hy (Nat.lt_succ_self _) (by omega)) q⟩
      refine ⟨rfl, Or.inl rfl, Nat.le_refl _, Nat.le_refl _, ⟨w, rfl, fun z => (h z).trans ⟨fun q => ⟨q.1, by omega, q.2.2⟩, fun q => ⟨q.1, by omega, q.2.2⟩⟩⟩, rfl⟩)
    (fun k w hk h ih y hy => by
      have hck : y.toNatClampNeg = k := zn_c hy (by omega)
      have hs : μ.1 6 x.toNatClampNeg y.toNatClampNeg = nI (gq_sy g p k) := by rw [hck]; exact c5 k (by omega)
      have hs8 := gq_sy8 hg hp (show k ≤ gq_m g p by omega)
      have hsn := (hg.2.2.2.2.1 p hp).2 k (by omega)
      refine run [5] 40 5 _ _ _ _ ?_
      refine ⟨c2, fun q => absurd q (zn_nl c4 hy (by omega) (by omega)), fun _ => ⟨c2, zn_i hy (by omega) (by decide), zn_i hs hs8 (by decide), ?_⟩⟩
      refine ih _ (fun z => ?_) _ (zn_s hy)
      have e3 : (8 : Int32) * y = nI (8 * k) := by rw [hy, zn_8]
      show bt (w ||| (μ.1 28 J (μ.1 6 x.toNatClampNeg y.toNatClampNeg).toNatClampNeg <<< ((8 : Int32) * y &&& 31))) z = true ↔ _
      rw [zn_c hs (by omega), e3, b_or, Bool.or_eq_true, h z]
      by_cases hz : z < 32
      · rw [bt_shl8 _ (by omega) hz, Bool.and_eq_true, decide_eq_true_eq]
        constructor
        · rintro (⟨q1, q2, q3⟩ | ⟨q1, q2⟩)
          · exact ⟨q1, by omega, q3⟩
          · have := h8 _ hsn _ q2
            have e : z / 8 = k := by omega
            refine ⟨hz, by omega, ?_⟩
            rw [e, show z % 8 = z - 8 * k by omega]
            exact q2
        · rintro ⟨q1, q2, q3⟩
          by_cases e : z / 8 = k
          · refine Or.inr ⟨by omega, ?_⟩
            rw [e] at q3
            rw [show z - 8 * k = z % 8 by omega]
            exact q3
          · exact Or.inl ⟨q1, by omega, q3⟩
      · constructor
        · rintro (q | q)
          · omega
          · rw [b_big (Nat.le_of_not_lt hz)] at q
            cases q
        · intro q; omega)
  refine run [5] 40 0 _ _ _ _ ?_
  exact loop 0 0 (Nat.zero_le _) (fun z => ⟨fun q => (by rw [b_0] at q; cases q), fun q => absurd q.2.1 (Nat.not_lt_zero _)⟩) 0 rfl
theorem ct_N_placesBefore {Γ : zk_G} {d o : Nat} {x l : Int32} {L : Bool} {μ : za_M} (hx : x = nI o) (ho : o < 4) (hl : l = if L = true then 0 else 1) (hd : 2 ≤ d) : zk_Ct zt Γ zm_N_placesBefore d 0 0 [za_i x, za_i l] μ (fun r μ' => (∃ w : Int32, r = some (za_i w) ∧ ∀ a y, a < 8 → y < 32 → (bt w y = true ↔ ps_sd L (8 * o + a) y)) ∧ μ' = μ) (fun _ _ => False) := by
  refine zs_N_placesBefore (Nat.le_of_ble_eq_true rfl) (by omega) (fun ZZ run => ?_)
  refine run [] 40 0 _ _ _ _ ?_
  refine ⟨fun h0 => ⟨fun hq => ?_, fun hq => ?_⟩, fun h0 => ?_⟩
  · have hL : L = true := by
      cases hq2 : L with
      | true => rfl
      | false => rw [hl, hq2] at hq; exact absurd hq (by decide)
    refine ⟨d - 1, 0, 0, _, _, by omega, Nat.le_refl _, Nat.le_refl _, ct_A_firstBits (by omega), ?_, fun _ _ h => h.elim⟩
    rintro r μ1 ⟨rfl, rfl⟩
    refine ⟨rfl, Or.inl rfl, Nat.le_refl _, Nat.le_refl _, ⟨_, rfl, fun a y ha hy => ?_⟩, rfl⟩
    have h1 : ¬ o = 0 := fun w => h0 (by rw [hx, w]; rfl)
    rw [hx, zn_8, fb_bt (8 * o) (by omega) y hy, decide_eq_true_eq, hL]
    unfold ps_sd
    rw [if_pos rfl]
    omega
  · have hL : L = false := by
      cases hq2 : L with
      | false => rfl
      | true => rw [hl, hq2] at hq; exact absurd rfl hq
    refine ⟨rfl, Or.inl rfl, Nat.le_refl _, Nat.le_refl _, ⟨_, rfl, fun a y ha hy => ?_⟩, rfl⟩
    have h1 : ¬ o = 0 := fun w => h0 (by rw [hx, w]; rfl)
    rw [hx, pb_bt o ho y hy, decide_eq_true_eq, hL]
    unfold ps_sd
    rw [if_neg (by decide)]
    omega
  · have h1 : o = 0 := by rw [hx] at h0; exact (nI_eq (b := 0) (by omega) (by decide)).mp h0
    refine ⟨rfl, Or.inl rfl, Nat.le_refl _, Nat.le_refl _, ⟨_, rfl, fun a y ha hy => ⟨fun _ => Or.inl (by omega), fun _ => b_m1 y hy⟩⟩, rfl⟩
def nu_S (J b j : Nat) : Prop := ((b = 24 ∨ b = 27 ∨ b = 28) ∧ j = J) ∨ (b = 26 ∧ j / 8 = J)
set_option maxHeartbeats 4000000 in
theorem ct_N_forget {Γ : zk_G} {d J : Nat} {μ : za_M} (hd : 1 ≤ d) : zk_Ct zt Γ zm_N_forget d 0 0 [za_r 24 J] μ (fun r μ' => r = none ∧ (∀ s, s < 8 → μ'.1 27 J s = 0 ∧ ∀ a, a < 6 → μ'.1 26 (8 * J + s) a = -1) ∧ μ'.1 24 J 2 = 0 ∧ (∀ i, i ≠ 2 → μ'.1 24 J i = μ.1 24 J i) ∧ zq_fr (nu_S J) μ μ') (fun _ _ => False) := by
  refine zs_N_forget (Nat.le_of_ble_eq_true rfl) hd (fun ZZ run => ?_)
  have loop := zn_for (σ := za_M × Option za_V) (N := 8)
    (P := fun k t => ∀ y : Int32, y = nI k → ZZ 7 [some (za_r 24 J), some (za_i y), t.2] [] t.1 (0, 0))
    (I := fun k t => (∀ s, s < k → t.1.1 27 J s = 0 ∧ ∀ a, a < 6 → t.1.1 26 (8 * J + s) a = -1) ∧ t.1.1 24 J 2 = 0 ∧ (∀ i, i ≠ 2 → t.1.1 24 J i = μ.1 24 J i) ∧ zq_fr (nu_S J) μ t.1)
    (fun t h y hy => by
      refine run [7, 22] 40 7 _ _ _ _ ?_
      refine ⟨fun _ => ?_, fun q => absurd (by rw [hy]; exact nI_le (Nat.le_refl 8) (by decide)) q⟩
      exact ⟨rfl, rfl, Nat.le_refl _, Nat.le_refl _, rfl, h⟩)
    (fun k t hk h ih y hy => by
      have hck : y.toNatClampNeg = k := zn_c hy (by omega)
      have hb : vp_in y 8 := zn_i hy hk (by decide)
      have inner := zn_for (σ := za_M) (N := 6)
        (P := fun n μ1 => ∀ z : Int32, z = nI n → ZZ 22 [some (za_r 24 J), some (za_i y), some (za_i z)] [] μ1 (0, 0))
        (I := fun n μ1 => (∀ s, s < k → μ1.1 27 J s = 0 ∧ ∀ a, a < 6 → μ1.1 26 (8 * J + s) a = -1) ∧ μ1.1 27 J k = 0 ∧ (∀ a, a < n → μ1.1 26 (8 * J + k) a = -1) ∧ μ1.1 24 J 2 = 0 ∧ (∀ i, i ≠ 2 → μ1.1 24 J i = μ.1 24 J i) ∧ zq_fr (nu_S J) μ μ1)
        (fun μ1 q z hz => by
          refine run [7, 22] 40 22 _ _ _ _ ?_
          refine ⟨fun _ => ?_, fun w => absurd (by rw [hz]; exact nI_le (Nat.le_refl 6) (by decide)) w⟩
          refine ih (μ1, some (za_i z)) ⟨fun s hs => ?_, q.2.2.2⟩ _ (zn_s hy)
          by_cases e : s = k
          · subst e; exact ⟨q.2.1, q.2.2.1⟩
          · exact q.1 s (by omega))
        (fun n μ1 hn q ih2 z hz => by
          have hcn : z.toNatClampNeg = n := zn_c hz (by omega)
          refine run [7, 22] 40 22 _ _ _ _ ?_
          refine ⟨fun w => absurd w (zn_ge hz rfl hn (by decide)), fun _ => ⟨hb, zn_i hz hn (by decide), ?_⟩⟩
          suffices post : ∀ μ2 : za_M, (za_u μ1.1 26 (za_ix J 8 y.toNatClampNeg) z.toNatClampNeg (-1), μ1.2) = μ2 → ZZ 22 [some (za_r 24 J), some (za_i y), some (za_i (z + 1))] [] μ2 (0, 0) from post _ rfl
          intro μ2 hμ2
          rw [za_ix8, hck, hcn] at hμ2
          have n27 : μ2.1 27 = μ1.1 27 := by rw [← hμ2]; funext j; show za_u μ1.1 26 (8 * J + k) n (-1) 27 j = μ1.1 27 j; rw [za_u_b (show (27 : Nat) ≠ 26 by decide)]
          have n24 : μ2.1 24 = μ1.1 24 := by rw [← hμ2]; funext j; show za_u μ1.1 26 (8 * J + k) n (-1) 24 j = μ1.1 24 j; rw [za_u_b (show (24 : Nat) ≠ 26 by decide)]
          have n26 : ∀ s a, (s ≠ k ∨ a ≠ n) → μ2.1 26 (8 * J + s) a = μ1.1 26 (8 * J + s) a := by
            intro s a w
            rw [← hμ2]
            show za_u μ1.1 26 (8 * J + k) n (-1) 26 (8 * J + s) a = _
            unfold za_u
            rw [if_neg (by omega)]
          refine ih2 μ2 ⟨fun s hs => ⟨by rw [n27]; exact (q.1 s hs).1, fun a ha => by rw [n26 s a (Or.inl (by omega))]; exact (q.1 s hs).2 a ha⟩, by rw [n27]; exact q.2.1, fun a ha => ?_, by rw [n24]; exact q.2.2.2.1, by rw [n24]; exact q.2.2.2.2.1, ?_⟩ _ (zn_s hz)
          · by_cases e : a = n
            · subst e
              rw [← hμ2]
              exact za_u_same _ _ _ _ _
            · rw [n26 k a (Or.inr e)]
              exact q.2.2.1 a (by omega)
          · rw [← hμ2]
            exact zq_u q.2.2.2.2.2 (Or.inr ⟨rfl, by omega⟩))
      refine run [7, 22] 40 7 _ _ _ _ ?_
      refine ⟨fun q => absurd q (zn_ge hy rfl hk (by decide)), fun _ => ⟨hb, ?_⟩⟩
      refine inner 0 _ (Nat.zero_le _) ⟨fun s hs => ?_, ?_, fun a ha => absurd ha (Nat.not_lt_zero a), ?_, fun i hi => ?_, zq_u h.2.2.2 (Or.inl ⟨Or.inr (Or.inl rfl), rfl⟩)⟩ 0 rfl
      · dsimp only
        rw [hck, za_u_i (show s ≠ k by omega), za_u_b (show (26 : Nat) ≠ 27 by decide)]
        exact h.1 s hs
      · dsimp only
        rw [hck, za_u_same]
      · dsimp only
        rw [za_u_b (show (24 : Nat) ≠ 27 by decide)]
        exact h.2.1
      · dsimp only
        rw [za_u_b (show (24 : Nat) ≠ 27 by decide)]
        exact h.2.2.1 i hi)
  refine run [7] 40 0 _ _ _ _ ?_
  refine loop 0 (_, none) (Nat.zero_le _) ⟨fun i hi => absurd hi (Nat.not_lt_zero i), ?_, fun i hi => ?_, zq_u zq_rf (Or.inl ⟨Or.inl rfl, rfl⟩)⟩ 0 rfl
  · dsimp only
    rw [za_u_same]
  · dsimp only
    rw [za_u_i hi]
