/-! the reference: one pass -/
theorem ps_may {g : gq_G} (hg : gq_ok g) {nb : Nat → Nat} {set : Nat → Bool} {L : Bool} {p k : Nat} (hp : p < gq_np g) (hk : k < 32) : (∃ y, bt (gq_nd g p k) y = true ∧ nb (ps_ix g p y) = 0 ∧ (¬ ps_sd L k y ∨ lf_V 64 (ps_d g nb set) (ps_ix g p y))) ↔ ¬ ∀ y, bt (gq_nd g p k) y = true → ps_st g nb set L p k y := by
  constructor
  · rintro ⟨y, h1, h2, h3⟩ q
    rcases q y h1 with w | ⟨w1, w2⟩
    · omega
    · rcases h3 with h3 | h3
      · exact h3 w2
      · have := (ps_d_iff.mp h3.2).2.2
        rw [w1] at this
        cases this
  · intro q
    refine Classical.byContradiction fun w => q fun y hy => ?_
    refine Classical.byContradiction fun w2 => w ⟨y, hy, ?_, ?_⟩
    · exact Classical.byContradiction fun w3 => w2 (Or.inl (by omega))
    · by_cases e : ps_sd L k y
      · refine Or.inr ?_
        have hth := (hg.2.2.2.2.2 p k y hp hk hy).2.1
        have hat := ps_th hg hp hth
        refine ⟨hat.2, ps_d_iff.mpr ⟨hat.1, ?_, ?_⟩⟩
        · exact Classical.byContradiction fun w3 => w2 (Or.inl (by omega))
        · cases hs : set (ps_ix g p y) with
          | false => rfl
          | true => exact absurd (Or.inr ⟨hs, e⟩) w2
      · exact Or.inl e
/-- the pass's set so far -/
def ps_so (g : gq_G) (nb : Nat → Nat) (μ : za_M) : Prop := (∀ i, i < 64 → μ.1 43 0 i = 0 ∨ μ.1 43 0 i = 1) ∧ ∀ i, i < 64 → ps_ms μ i = true → ps_at g i ∧ nb i = 0
set_option maxHeartbeats 8000000 in
theorem ct_M_leaveOut {Γ : zk_G} {d : Nat} {l : Int32} {L : Bool} {μ : za_M} {g : gq_G} {nb : Nat → Nat} (hg : gq_ok g) (hM : gq_M g μ) (h42 : ∀ i, i < 64 → μ.1 42 0 i = nI (nb i) ∧ nb i < 2 ^ 31) (hso : ps_so g nb μ) (hL : ∀ i, lf_V 64 (ps_d g nb (ps_ms μ)) i → lf_L (ps_F g nb L) (32 * gq_np g) i) (hl : l = if L = true then 1 else 0) (hd : 6 ≤ d) : zk_Ct zt Γ zm_M_leaveOut d 0 0 [za_r 30 0, za_i l] μ (fun r μ' => (∃ v : Int32, r = some (za_i v) ∧ lf_I (ps_F g nb L) (32 * gq_np g) 64 (ps_d g nb (ps_ms μ)) (32 * gq_np g) (ps_d g nb (ps_ms μ')) v) ∧ ps_so g nb μ' ∧ zq_fr (fun b j => b = 43 ∧ j = 0) μ μ') (fun _ _ => False) := by
  have hnp : gq_np g ≤ 16 := hg.2.1
  refine zs_M_leaveOut (Nat.le_of_ble_eq_true rfl) (by omega) (fun ZZ run => ?_)
  have loop := zn_for (σ := (za_M × Int32) × Option za_V) (N := gq_np g)
    (P := fun p t => ∀ x : Int32, x = nI p → ZZ 4 [some (za_r 30 0), some (za_i l), some (za_i t.1.2), some (za_i x), t.2] [] t.1.1 (0, 0))
    (I := fun p t => lf_I (ps_F g nb L) (32 * gq_np g) 64 (ps_d g nb (ps_ms μ)) (32 * p) (ps_d g nb (ps_ms t.1.1)) t.1.2 ∧ ps_so g nb t.1.1 ∧ zq_fr (fun b j => b = 43 ∧ j = 0) μ t.1.1)
    (fun t h x hx => by
      have e4 : t.1.1.1 30 0 4 = nI (gq_np g) := by rw [h.2.2.1 30 0 (by decide)]; exact hM.2.1
      refine run [4, 15, 80] 60 4 _ _ _ _ ?_
      refine ⟨fun _ => ?_, fun q => absurd (by rw [hx, e4]; exact nI_le (Nat.le_refl _) (by omega)) q⟩
      exact ⟨rfl, Or.inr ⟨rfl, h.1.1⟩, Nat.le_refl _, Nat.le_refl _, ⟨t.1.2, rfl, h.1⟩, h.2.1, h.2.2⟩)
    (fun p t hp h ih x hx => by
      have e4 : t.1.1.1 30 0 4 = nI (gq_np g) := by rw [h.2.2.1 30 0 (by decide)]; exact hM.2.1
      have inner := zn_for (σ := za_M × Int32) (N := 32)
        (P := fun k u => ∀ z : Int32, z = nI k → ZZ 15 [some (za_r 30 0), some (za_i l), some (za_i u.2), some (za_i x), some (za_i z)] [] u.1 (0, 0))
        (I := fun k u => lf_I (ps_F g nb L) (32 * gq_np g) 64 (ps_d g nb (ps_ms μ)) (32 * p + k) (ps_d g nb (ps_ms u.1)) u.2 ∧ ps_so g nb u.1 ∧ zq_fr (fun b j => b = 43 ∧ j = 0) μ u.1)
        (fun u q z hz => by
          refine run [4, 15, 80] 60 15 _ _ _ _ ?_
          refine ⟨fun _ => ?_, fun w => absurd (by rw [hz]; exact nI_le (Nat.le_refl 32) (by decide)) w⟩
          exact ih (u, some (za_i z)) q _ (zn_s hx))
        (fun k u hk q ih2 z hz => by
          obtain ⟨q1, q2, q3⟩ := q
          have hMu : gq_M g u.1 := gq_M_fr hM q3 (by decide) (by decide) (by decide) (by decide) (by rw [q3.1 30 0 (by decide)]) (by rw [q3.1 30 0 (by decide)])
          have h42u : ∀ i, i < 64 → u.1.1 42 0 i = nI (nb i) ∧ nb i < 2 ^ 31 := by rw [q3.1 42 0 (by decide)]; exact h42
          have hdv : (32 * p + k) / 32 = p := by omega
          have hmd : (32 * p + k) % 32 = k := by omega
          have stay : (∀ i, ps_F g nb L (32 * p + k) (lf_V 64 (ps_d g nb (ps_ms u.1))) i → lf_V 64 (ps_d g nb (ps_ms u.1)) i) → ZZ 80 [some (za_r 30 0), some (za_i l), some (za_i u.2), some (za_i x), some (za_i z)] [] u.1 (0, 0) := by
            intro w
            refine run [15] 60 80 _ _ _ _ ?_
            exact ih2 u ⟨lf_In (k := 32 * p + k) (ps_Fm g nb L) (ps_FN hg nb L) q1 (by omega) w, q2, q3⟩ _ (zn_s hz)
          refine run [4, 15, 80] 60 15 _ _ _ _ ?_
          refine ⟨fun w => absurd w (zn_ge hz rfl hk (by decide)), fun _ => ?_⟩
          refine ⟨d - 1, 0, 0, _, _, by omega, Nat.le_refl _, Nat.le_refl _, ct_M_defines hg hMu hx hp (by omega), ?_, fun _ _ h => h.elim⟩
          rintro r μ1 ⟨⟨v, rfl, hv, hv1⟩, hμ1⟩
          subst hμ1
          have dk : v = 1 ↔ gq_df g p k := hv1.trans ⟨fun ⟨k', w1, w2, w3⟩ => by
            have e : k = k' := (nI_eq (by omega) (by omega)).mp (hz.symm.trans w2)
            subst e
            exact w3, fun w => ⟨k, hk, hz, w⟩⟩
          refine ⟨fun hv0 => stay ?_, fun hv0 => ?_⟩
          · rintro i ⟨_, _, y, w, _⟩
            rw [hdv, hmd] at w
            exact absurd (hv0.symm.trans (dk.mpr (hg.2.2.2.2.2 p k y hp hk w).1)) (by decide)
          have hdf := dk.mp (zn_or01 hv hv0)
          have hat := ps_th hg hp hdf.1
          refine ⟨d - 1, 0, 0, _, _, by omega, Nat.le_refl _, Nat.le_refl _, ct_M_inSet hg hMu q2.1 hx hz hk hdf.1 hp (by omega), ?_, fun _ _ h => h.elim⟩
          rintro r μ1 ⟨rfl, hμ1⟩
          subst hμ1
          refine ⟨fun hs0 => stay ?_, fun hs0 => ?_⟩
          · rintro i ⟨w1, w2, _⟩
            rw [hdv, hmd] at w1
            subst w1
            refine ⟨hat.2, ps_d_iff.mpr ⟨hat.1, w2, ?_⟩⟩
            unfold ps_ms
            rw [hs0]
            rfl
          have hs1 := zn_or01 (q2.1 _ hat.2) hs0
          refine ⟨d - 1, 0, 0, _, _, by omega, Nat.le_refl _, Nat.le_refl _, ct_M_mayStay hg hMu h42u q2.1 hx hz hk hp hl (by omega), ?_, fun _ _ h => h.elim⟩
          rintro r μ1 ⟨⟨m, rfl, hm, hm1⟩, hμ1⟩
          subst hμ1
          refine ⟨fun hm0 => stay ?_, fun hm0 => ?_⟩
          · rintro i ⟨_, _, w⟩
            rw [hdv, hmd] at w
            exact absurd (hm1.mp (zn_or01 hm hm0)) ((ps_may hg hp hk).mp w)
          have hex := (ps_may (L := L) (nb := nb) hg hp hk).mpr (fun w => absurd (hm0.symm.trans (hm1.mpr w)) (by decide))
          refine ⟨by decide, ?_⟩
          refine ⟨d - 1, 0, 0, _, _, by omega, Nat.le_refl _, Nat.le_refl _, ct_M_symbolOf' (k := k / 8) hg hMu hx (by rw [hz]; exact zn_div (by omega)) (by omega) hp (by omega), ?_, fun _ _ h => h.elim⟩
          rintro r μ1 ⟨⟨s, rfl, hs⟩, hμ1⟩
          subst hμ1
          rw [if_pos hdf.1.1] at hs
          have e : (8 : Int32) * s + (z - z / 8 * 8) = nI (ps_ix g p k) := by
            rw [hs, hz, zn_rem (by omega), zn_8, nI_add]
            rfl
          have h64 := hat.2
          refine ⟨by decide, zn_i e hat.2 (by decide), Or.inl rfl, ?_⟩
          suffices post : ∀ μ2 : za_M, (za_u u.1.1 43 0 ((8 : Int32) * s + (z - z / 8 * 8)).toNatClampNeg 0, u.1.2) = μ2 → ZZ 80 [some (za_r 30 0), some (za_i l), some (za_i 1), some (za_i x), some (za_i z)] [] μ2 (0, 0) from post _ rfl
          intro μ2 hμ2
          have n0 : μ2.1 43 0 (ps_ix g p k) = 0 := by rw [← hμ2]; dsimp only; rw [zn_c e (by omega), za_u_same]
          have n1 : ∀ i, i ≠ ps_ix g p k → μ2.1 43 0 i = u.1.1 43 0 i := fun i hi => by rw [← hμ2]; dsimp only; rw [zn_c e (by omega), za_u_i hi]
          have nf : zq_fr (fun b j => b = 43 ∧ j = 0) μ μ2 := by rw [← hμ2]; exact zq_u q3 ⟨rfl, rfl⟩
          have m0 : ps_ms μ2 (ps_ix g p k) = false := by unfold ps_ms; rw [n0]; rfl
          have m1 : ∀ i, i ≠ ps_ix g p k → ps_ms μ2 i = ps_ms u.1 i := fun i hi => by unfold ps_ms; rw [n1 i hi]
          have s1 : ps_ms u.1 (ps_ix g p k) = true := decide_eq_true hs1
          have hnb := (q2.2 _ hat.2 s1)
          have hF : ps_F g nb L (32 * p + k) (lf_V 64 (ps_d g nb (ps_ms u.1))) (ps_ix g p k) := ⟨by rw [hdv, hmd], hnb.2, by rw [hdv, hmd]; exact hex⟩
          refine run [15] 60 80 _ _ _ _ ?_
          refine ih2 (μ2, 1) ⟨lf_Is (k := 32 * p + k) (ps_Fm g nb L) (ps_FN hg nb L) q1 (by omega) (fun i hi => ?_) (Or.inr rfl) ⟨fun _ => Or.inr ⟨_, hF, fun w => ?_⟩, fun _ => rfl⟩, ⟨fun i hi => ?_, fun i hi w => ?_⟩, nf⟩ _ (zn_s hz)
          · by_cases ei : i = ps_ix g p k
            · subst ei
              exact ⟨fun _ => Or.inr hF, fun _ => ps_d_iff.mpr ⟨hnb.1, hnb.2, m0⟩⟩
            · rw [ps_d_iff, ps_d_iff, m1 i ei]
              refine ⟨Or.inl, fun w => w.elim id (fun w => ?_)⟩
              have := w.1
              rw [hdv, hmd] at this
              exact absurd this ei
          · have := (ps_d_iff.mp w.2).2.2
            rw [s1] at this
            cases this
          · by_cases ei : i = ps_ix g p k
            · rw [ei]; exact Or.inl n0
            · show μ2.1 43 0 i = 0 ∨ μ2.1 43 0 i = 1
              rw [n1 i ei]; exact q2.1 i hi
          · by_cases ei : i = ps_ix g p k
            · have w : ps_ms μ2 i = true := w
              rw [ei, m0] at w; cases w
            · have w : ps_ms μ2 i = true := w
              rw [m1 i ei] at w; exact q2.2 i hi w)
      refine run [4, 15, 80] 60 4 _ _ _ _ ?_
      refine ⟨fun q => absurd q (zn_ge hx e4 hp (by omega)), fun _ => ?_⟩
      exact inner 0 t.1 (Nat.zero_le _) h 0 rfl)
  refine run [4, 15, 80] 60 0 _ _ _ _ ?_
  exact loop 0 ((μ, 0), none) (Nat.zero_le _) ⟨lf_I0 hL, hso, zq_rf⟩ 0 rfl
