/-! the reference as a whole: its state, clear, symbol -/
def gm (g : gq_G) (μ : za_M) : Prop := gq_M g μ ∧ (μ.1 30 0 7 = 0 ∨ μ.1 30 0 7 = 1 ∧ mt_fin g μ) ∧ (μ.1 30 0 14 = 0 ∨ μ.1 30 0 14 = 1 ∧ mo_fin g μ)
theorem mt_finc {g : gq_G} {μ μ' : za_M} (h : mt_fin g μ) (h8 : μ'.1 30 0 8 = μ.1 30 0 8) (h9 : μ'.1 30 0 9 = μ.1 30 0 9) (h35 : μ'.1 35 0 = μ.1 35 0) (h36 : μ'.2 36 0 = μ.2 36 0) : mt_fin g μ' := by
  have eK : mt_K μ' = mt_K μ := by funext s; unfold mt_K; rw [h35]
  have eT : mt_T μ' = mt_T μ := by funext s i; unfold mt_T; rw [h36]
  have eC : mt_C μ' = mt_C μ := by unfold mt_C; rw [h9]
  unfold mt_fin mt_ok at h ⊢
  rw [eK, eT, eC, h8, h9, h35, h36]
  exact h
theorem mo_finc {g : gq_G} {μ μ' : za_M} (h : mo_fin g μ) (h18 : μ'.1 30 0 18 = μ.1 30 0 18) (h19 : μ'.1 30 0 19 = μ.1 30 0 19) (h39 : μ'.1 39 0 = μ.1 39 0) (h40 : μ'.1 40 0 = μ.1 40 0) (h41 : μ'.1 41 0 = μ.1 41 0) : mo_fin g μ' := by
  have ex : mo_x μ' = mo_x μ := by funext i; unfold mo_x; rw [h39, h40]
  have ey : mo_y μ' = mo_y μ := by funext i; unfold mo_y; rw [h41]
  unfold mo_fin mo_01 mo_ub mo_vb at h ⊢
  rw [ex, ey, h18, h19, h39, h40, h41]
  exact h
/-- the note of a refusal alone -/
def gm_t (μ : za_M) (t : Int32) : za_M := (za_u μ.1 30 0 0 t, μ.2)
theorem gm_t0 {μ : za_M} {t : Int32} : (gm_t μ t).1 30 0 0 = t := by unfold gm_t; dsimp only; rw [za_u_same]
theorem gm_ti {μ : za_M} {t : Int32} {i : Nat} (h : i ≠ 0) : (gm_t μ t).1 30 0 i = μ.1 30 0 i := za_u_i h
theorem gm_tb {μ : za_M} {t : Int32} {b j : Nat} (h : b ≠ 30) : (gm_t μ t).1 b j = μ.1 b j := za_u_b h
theorem gm_tf {μ : za_M} {t : Int32} : zq_fr (fun b _ => 30 ≤ b) μ (gm_t μ t) := zq_u zq_rf (Nat.le_refl 30)
theorem gm_tM {g : gq_G} {μ : za_M} {t : Int32} (h : gq_M g μ) : gq_M g (gm_t μ t) := by
  unfold gq_M at h ⊢
  rw [gm_ti (by decide), gm_ti (by decide), gm_tb (by decide), gm_tb (by decide), gm_tb (by decide), gm_tb (by decide)]
  exact h
theorem gm_tg {g : gq_G} {μ : za_M} {t : Int32} (h : gm g μ) : gm g (gm_t μ t) := by
  refine ⟨gm_tM h.1, ?_, ?_⟩
  · rw [gm_ti (by decide)]
    exact h.2.1.imp id (fun q => ⟨q.1, mt_finc q.2 (gm_ti (by decide)) (gm_ti (by decide)) (gm_tb (by decide)) rfl⟩)
  · rw [gm_ti (by decide)]
    exact h.2.2.imp id (fun q => ⟨q.1, mo_finc q.2 (gm_ti (by decide)) (gm_ti (by decide)) (gm_tb (by decide)) (gm_tb (by decide)) (gm_tb (by decide))⟩)
theorem gm_fr {g : gq_G} {S : Nat → Nat → Prop} {μ μ' : za_M} (h : gm g μ) (hf : zq_fr S μ μ') (hS : ∀ b j, 30 ≤ b → ¬ S b j) : gm g μ' := by
  have e30 : μ'.1 30 0 = μ.1 30 0 := hf.1 30 0 (hS 30 0 (by decide))
  refine ⟨gq_M_fr h.1 hf (hS 31 0 (by decide)) (hS 32 0 (by decide)) (hS 33 0 (by decide)) (hS 34 0 (by decide)) (by rw [e30]) (by rw [e30]), ?_, ?_⟩
  · rw [e30]
    exact h.2.1.imp id (fun q => ⟨q.1, mt_finc q.2 (by rw [e30]) (by rw [e30]) (hf.1 35 0 (hS 35 0 (by decide))) (hf.2 36 0 (hS 36 0 (by decide)))⟩)
  · rw [e30]
    exact h.2.2.imp id (fun q => ⟨q.1, mo_finc q.2 (by rw [e30]) (by rw [e30]) (hf.1 39 0 (hS 39 0 (by decide))) (hf.1 40 0 (hS 40 0 (by decide))) (hf.1 41 0 (hS 41 0 (by decide)))⟩)
/-- answers forgotten -/
def gm_f (μ : za_M) : za_M := (za_u (za_u μ.1 30 0 7 0) 30 0 14 0, μ.2)
theorem gm_fi {μ : za_M} {i : Nat} (h7 : i ≠ 7) (h14 : i ≠ 14) : (gm_f μ).1 30 0 i = μ.1 30 0 i := by unfold gm_f; dsimp only; rw [za_u_i h14, za_u_i h7]
theorem gm_fb {μ : za_M} {b j : Nat} (h : b ≠ 30) : (gm_f μ).1 b j = μ.1 b j := by unfold gm_f; dsimp only; rw [za_u_b h, za_u_b h]
theorem gm_ff {μ : za_M} : zq_fr (fun b _ => 30 ≤ b) μ (gm_f μ) := zq_u (b := (za_u μ.1 30 0 7 0, μ.2)) (zq_u zq_rf (Nat.le_refl 30)) (Nat.le_refl 30)
theorem gm_fM {g : gq_G} {μ : za_M} (h : gq_M g μ) : gm g (gm_f μ) := by
  refine ⟨?_, Or.inl ?_, Or.inl ?_⟩
  · unfold gq_M at h ⊢
    rw [gm_fi (by decide) (by decide), gm_fi (by decide) (by decide), gm_fb (by decide), gm_fb (by decide), gm_fb (by decide), gm_fb (by decide)]
    exact h
  · unfold gm_f; dsimp only; rw [za_u_i (by decide), za_u_same]
  · unfold gm_f; dsimp only; rw [za_u_same]
set_option maxHeartbeats 4000000 in
theorem ct_M_clear {Γ : zk_G} {d : Nat} {μ : za_M} (hd : 2 ≤ d) : zk_Ct zt Γ zm_M_clear d 0 0 [za_r 30 0] μ (fun r μ' => r = none ∧ gm gq_0 μ' ∧ zq_fr (fun b _ => 30 ≤ b) μ μ') (fun _ _ => False) := by
  refine zs_M_clear (Nat.le_of_ble_eq_true rfl) (by omega) (fun ZZ run => ?_)
  have loop2 := zn_for (σ := za_M) (N := 512)
    (P := fun k μ1 => ∀ y : Int32, y = nI k → ZZ 38 [some (za_r 30 0), some (za_i y)] [] μ1 (0, 0))
    (I := fun k μ1 => (∀ i, i < k → μ1.1 34 0 i = 0) ∧ μ1.1 30 0 1 = 0 ∧ μ1.1 30 0 4 = 0 ∧ zq_fr (fun b _ => 30 ≤ b) μ μ1)
    (fun μ1 h y hy => by
      refine run [38] 40 38 _ _ _ _ ?_
      refine ⟨fun _ => ?_, fun q => absurd (by rw [hy]; exact nI_le (Nat.le_refl 512) (by decide)) q⟩
      refine ⟨d - 1, 0, 0, _, _, by omega, Nat.le_refl _, Nat.le_refl _, ct_M_forget (by omega), ?_, fun _ _ h => h.elim⟩
      rintro r μ2 ⟨rfl, hμ2⟩
      have hμ2 : μ2 = gm_f μ1 := hμ2
      subst hμ2
      refine ⟨rfl, rfl, Nat.le_refl _, Nat.le_refl _, rfl, gm_fM ⟨h.2.1, h.2.2.1, fun s hs => absurd hs (Nat.not_lt_zero s), fun p o hp => absurd hp (Nat.not_lt_zero p), fun p x hp hx => ?_⟩, zq_tr h.2.2.2 gm_ff⟩
      rw [h.1 _ (by omega)]
      exact (if_neg (Nat.not_lt_zero p)).symm)
    (fun k μ1 hk h ih y hy => by
      have hck : y.toNatClampNeg = k := zn_c hy (by omega)
      refine run [38] 40 38 _ _ _ _ ?_
      refine ⟨fun q => absurd q (zn_ge hy (show (512 : Int32) = nI 512 from rfl) hk (by decide)), fun _ => ⟨zn_i hy hk (by decide), ?_⟩⟩
      refine ih _ ⟨fun i hi => ?_, ?_, ?_, zq_u h.2.2.2 (show 30 ≤ 34 by decide)⟩ _ (zn_s hy)
      · dsimp only
        rw [hck]
        by_cases e : i = k
        · subst e; rw [za_u_same]
        · rw [za_u_i e]; exact h.1 i (by omega)
      · dsimp only; rw [za_u_b (show (30 : Nat) ≠ 34 by decide)]; exact h.2.1
      · dsimp only; rw [za_u_b (show (30 : Nat) ≠ 34 by decide)]; exact h.2.2.1)
  have loop1 := zn_for (σ := za_M) (N := 64)
    (P := fun k μ1 => ∀ y : Int32, y = nI k → ZZ 17 [some (za_r 30 0), some (za_i y)] [] μ1 (0, 0))
    (I := fun k μ1 => μ1.1 30 0 1 = 0 ∧ μ1.1 30 0 4 = 0 ∧ zq_fr (fun b _ => 30 ≤ b) μ μ1)
    (fun μ1 h y hy => by
      refine run [17, 38] 40 17 _ _ _ _ ?_
      refine ⟨fun _ => ?_, fun q => absurd (by rw [hy]; exact nI_le (Nat.le_refl 64) (by decide)) q⟩
      exact loop2 0 μ1 (Nat.zero_le _) ⟨fun i hi => absurd hi (Nat.not_lt_zero i), h⟩ 0 rfl)
    (fun k μ1 hk h ih y hy => by
      refine run [17, 38] 40 17 _ _ _ _ ?_
      refine ⟨fun q => absurd q (zn_ge hy rfl hk (by decide)), fun _ => ⟨zn_i hy hk (by decide), ?_⟩⟩
      refine ih _ ⟨?_, ?_, zq_u h.2.2 (show 30 ≤ 33 by decide)⟩ _ (zn_s hy)
      · dsimp only; rw [za_u_b (show (30 : Nat) ≠ 33 by decide)]; exact h.1
      · dsimp only; rw [za_u_b (show (30 : Nat) ≠ 33 by decide)]; exact h.2.1)
  refine run [17] 40 0 _ _ _ _ ?_
  refine loop1 0 _ (Nat.zero_le _) ⟨?_, ?_, zq_u (b := (za_u (za_u μ.1 30 0 0 0) 30 0 1 0, μ.2)) (zq_u (b := (za_u μ.1 30 0 0 0, μ.2)) (zq_u zq_rf (Nat.le_refl 30)) (Nat.le_refl 30)) (Nat.le_refl 30)⟩ 0 rfl
  · dsimp only; rw [za_u_i (by decide), za_u_same]
  · dsimp only; rw [za_u_same]
theorem bt_nI (k : Nat) {b : Nat} (hb : b < 32) : bt (nI k) b = k.testBit b := by
  show (BitVec.ofNat 32 k).getLsbD b = _
  rw [BitVec.getLsbD_ofNat, decide_eq_true hb, Bool.true_and]
theorem bt_neg {w : Int32} (h : w < 0) : bt w 31 = true := by
  have h1 : w.toInt < (0 : Int32).toInt := Int32.lt_iff_toInt_lt.mp h
  have h2 : w.toBitVec.toInt < 0 := h1
  have h3 : w.toBitVec.msb = true := by rw [BitVec.msb_eq_toInt]; exact decide_eq_true h2
  rw [BitVec.msb_eq_getLsbD_last] at h3
  exact h3
theorem gs_pw : ∀ n, n ≤ 6 → ((1 : Int32) <<< (nI n &&& 31)) - 1 = nI (2 ^ n - 1) := by decide +kernel
theorem gs_p6 : ∀ n, n ≤ 6 → 2 ^ n ≤ 64 := by decide
theorem gs_in {w : Int32} {n : Nat} (hn : n ≤ 6) : ¬ (w < 0 ∨ ((1 : Int32) <<< (nI n &&& 31)) - 1 < w) ↔ ∀ b, bt w b = true → b < n := by
  rw [gs_pw n hn]
  have h64 := gs_p6 n hn
  have hpos : 0 < 2 ^ n := Nat.pos_of_ne_zero (by simp)
  constructor
  · intro h b hb
    have h0 : ¬ w < 0 := fun q => h (Or.inl q)
    obtain ⟨k, hk, rfl⟩ := nI_of h0
    have hk2 : k < 2 ^ n := Classical.byContradiction fun q => h (Or.inr (zn_lt2 rfl rfl (by omega) hk))
    by_cases hb32 : b < 32
    · rw [bt_nI k hb32] at hb
      have := Nat.ge_two_pow_of_testBit hb
      exact Classical.byContradiction fun q => by
        have := Nat.pow_le_pow_right (show 0 < 2 by decide) (Nat.le_of_not_lt q)
        omega
    · rw [b_big (Nat.le_of_not_lt hb32)] at hb; cases hb
  · rintro h (q | q)
    · have := h 31 (bt_neg q)
      omega
    · have h0 : ¬ w < 0 := fun z => by have := h 31 (bt_neg z); omega
      obtain ⟨k, hk, rfl⟩ := nI_of h0
      have : k < 2 ^ n := Nat.lt_pow_two_of_testBit k (fun i hi => by
        by_cases hi32 : i < 32
        · cases hb : k.testBit i with
          | false => rfl
          | true => have := h i (by rw [bt_nI k hi32]; exact hb); omega
        · cases hb : k.testBit i with
          | false => rfl
          | true =>
            have h1 := Nat.ge_two_pow_of_testBit hb
            have h2 : (2 : Nat) ^ 32 ≤ 2 ^ i := Nat.pow_le_pow_right (by decide) (Nat.le_of_not_lt hi32)
            omega)
      exact absurd q (zn_nl rfl rfl (by omega) (by omega))
theorem gq_M_addS {g : gq_G} {μ : za_M} (hM : gq_M g μ) {n : Nat} {a w : Int32} (ha : a = nI n) : gq_M (gq_addS g n w) (za_u (za_u (za_u μ.1 31 0 (gq_ns g) a) 32 0 (gq_ns g) w) 30 0 1 (nI (gq_ns g + 1)), μ.2) := by
  generalize hm : ((za_u (za_u (za_u μ.1 31 0 (gq_ns g) a) 32 0 (gq_ns g) w) 30 0 1 (nI (gq_ns g + 1)), μ.2) : za_M) = μ'
  have m30 : ∀ i, μ'.1 30 0 i = if i = 1 then nI (gq_ns g + 1) else μ.1 30 0 i := fun i => by
    rw [← hm]
    dsimp only
    by_cases e : i = 1
    · subst e; rw [za_u_same, if_pos rfl]
    · rw [za_u_i e, if_neg e, za_u_b (show (30 : Nat) ≠ 32 by decide), za_u_b (show (30 : Nat) ≠ 31 by decide)]
  have m31 : ∀ i, μ'.1 31 0 i = if i = gq_ns g then a else μ.1 31 0 i := fun i => by
    rw [← hm]
    dsimp only
    rw [za_u_b (show (31 : Nat) ≠ 30 by decide), za_u_b (show (31 : Nat) ≠ 32 by decide)]
    by_cases e : i = gq_ns g
    · subst e; rw [za_u_same, if_pos rfl]
    · rw [za_u_i e, if_neg e]
  have m32 : ∀ i, μ'.1 32 0 i = if i = gq_ns g then w else μ.1 32 0 i := fun i => by
    rw [← hm]
    dsimp only
    rw [za_u_b (show (32 : Nat) ≠ 30 by decide)]
    by_cases e : i = gq_ns g
    · subst e; rw [za_u_same, if_pos rfl]
    · rw [za_u_i e, if_neg e, za_u_b (show (32 : Nat) ≠ 31 by decide)]
  have mb : ∀ b j, b ≠ 30 → b ≠ 31 → b ≠ 32 → μ'.1 b j = μ.1 b j := fun b j n1 n2 n3 => by rw [← hm]; dsimp only; rw [za_u_b n1, za_u_b n3, za_u_b n2]
  refine ⟨by rw [m30]; rfl, by rw [m30]; exact hM.2.1, fun s hs => ?_, by rw [mb 33 0 (by decide) (by decide) (by decide)]; exact hM.2.2.2.1, by rw [mb 34 0 (by decide) (by decide) (by decide)]; exact hM.2.2.2.2⟩
  rw [m31, m32]
  show _ = nI (if s = gq_ns g then n else gq_at g s) ∧ _ = (if s = gq_ns g then w else gq_dn g s)
  by_cases e : s = gq_ns g
  · rw [if_pos e, if_pos e, if_pos e]; exact ⟨ha, by rw [if_pos e]⟩
  · rw [if_neg e, if_neg e, if_neg e, if_neg e]
    have hs : s < gq_ns g + 1 := hs
    exact hM.2.2.1 s (by omega)
/-- what a note says -/
theorem mo_t_eq {a b : Int32} (ha : a = 0 ∨ a = 1) (hb : b = 0 ∨ b = 1) : (mo_t a b = 0 ↔ (a = 0 ∧ b = 0)) ∧ (a = 1 → mo_t a b = 1) ∧ (a = 0 → b = 1 → mo_t a b = 2) := by
  rcases ha with rfl | rfl <;> rcases hb with rfl | rfl <;> decide
set_option maxHeartbeats 8000000 in
theorem ct_M_symbol {Γ : zk_G} {d : Nat} {a w : Int32} {μ : za_M} {g : gq_G} (hg : gq_ok g) (h : gm g μ) (hd : 2 ≤ d) : zk_Ct zt Γ zm_M_symbol d 0 0 [za_r 30 0, za_i a, za_i w] μ
    (fun r μ' => (∃ v : Int32, r = some (za_i v) ∧ ((∃ n, gs_S g a w n ∧ gq_ns g < 8 ∧ v = nI (gq_ns g) ∧ μ'.1 30 0 0 = 0 ∧ gm (gq_addS g n w) μ') ∨ (¬ (∃ n, gs_S g a w n) ∧ μ'.1 30 0 0 = 1 ∧ gm g μ') ∨ ((∃ n, gs_S g a w n) ∧ ¬ gq_ns g < 8 ∧ μ'.1 30 0 0 = 2 ∧ gm g μ'))) ∧ zq_fr (fun b _ => 30 ≤ b) μ μ') (fun _ _ => False) := by
  have hns : gq_ns g ≤ 8 := hg.1
  refine zs_M_symbol (Nat.le_of_ble_eq_true rfl) (by omega) (fun ZZ run => ?_)
  -- noted, or added
  have c78 : ∀ (x y v3 : Int32), (x = 0 ∨ x = 1) → (y = 0 ∨ y = 1) → (x = 0 ↔ ∃ n, gs_S g a w n) → (y = 1 ↔ gq_ns g = 8) → ZZ 78 [some (za_r 30 0), some (za_i a), some (za_i w), some (za_i v3)] [za_i y, za_i x, za_r 30 0] μ (0, 0) := by
    intro x y v3 hx hy hxS hy8
    obtain ⟨t0, t1, t2⟩ := mo_t_eq hx hy
    refine run [] 60 78 _ _ _ _ ?_
    refine ⟨d - 1, 0, 0, _, _, by omega, Nat.le_refl _, Nat.le_refl _, ct_M_refuse (by omega), ?_, fun _ _ h => h.elim⟩
    rintro r μ1 ⟨rfl, hμ1⟩
    have hμ1 : μ1 = gm_t μ (mo_t x y) := hμ1
    subst hμ1
    by_cases ht : mo_t x y = 0
    · rw [if_pos ht]
      refine ⟨fun _ => ?_, fun q => absurd rfl q⟩
      obtain ⟨n, hS⟩ := hxS.mp (t0.mp ht).1
      have hlt : gq_ns g < 8 := by
        refine Classical.byContradiction fun q => ?_
        have := hy8.mpr (by omega)
        exact absurd ((t0.mp ht).2.symm.trans this) (by decide)
      have hM1 := (gm_tg (t := mo_t x y) h).1
      have e1 : (gm_t μ (mo_t x y)).1 30 0 1 = nI (gq_ns g) := hM1.1
      have hc1 : ((gm_t μ (mo_t x y)).1 30 0 1).toNatClampNeg = gq_ns g := zn_c e1 (by omega)
      refine ⟨zn_i e1 hlt (by decide), ?_⟩
      suffices post : ∀ f : Nat → Nat → Nat → Int32, za_u (gm_t μ (mo_t x y)).1 31 0 ((gm_t μ (mo_t x y)).1 30 0 1).toNatClampNeg a = f → f 30 0 1 = nI (gq_ns g) → vp_in (f 30 0 1) 8 ∧ ∀ f2 : Nat → Nat → Nat → Int32, za_u (za_u f 32 0 (f 30 0 1).toNatClampNeg w) 30 0 1 (za_u f 32 0 (f 30 0 1).toNatClampNeg w 30 0 1 + 1) = f2 → (∃ (d' mc' ms' : Nat) (post : Option za_V → za_M → Prop) (px : Nat → za_M → Prop), d' < d ∧ 0 + mc' ≤ 0 ∧ 0 + ms' ≤ 0 ∧ zk_Ct zt Γ zm_M_forget d' mc' ms' [za_r 30 0] (f2, (gm_t μ (mo_t x y)).2) post px ∧ (∀ r μ2, post r μ2 → r = none ∧ (((∃ n, gs_S g a w n ∧ gq_ns g < 8 ∧ μ2.1 30 0 1 - 1 = nI (gq_ns g) ∧ μ2.1 30 0 0 = 0 ∧ gm (gq_addS g n w) μ2)) ∧ zq_fr (fun b _ => 30 ≤ b) μ μ2) ∧ 0 + mc' ≤ 0 ∧ 0 + ms' ≤ 0) ∧ (∀ E μ2, px E μ2 → False)) from ?_
      · obtain ⟨p1, p2⟩ := post _ rfl (by rw [za_u_b (show (30 : Nat) ≠ 31 by decide)]; exact e1)
        refine ⟨p1, ?_⟩
        obtain ⟨d', mc', ms', po, px, e1, e2, e3, e4, e5, e6⟩ := p2 _ rfl
        refine ⟨d', mc', ms', po, px, e1, e2, e3, e4, fun r μ2 hr => ?_, fun E μ2 hE => (e6 E μ2 hE).elim⟩
        obtain ⟨rfl, ⟨⟨n, q1, q2, q3, q4, q5⟩, q6⟩, q7, q8⟩ := e5 r μ2 hr
        exact ⟨rfl, Or.inl rfl, q7, q8, ⟨_, rfl, Or.inl ⟨n, q1, q2, q3, q4, q5⟩⟩, q6⟩
      intro f hf hf1
      have hcf : (f 30 0 1).toNatClampNeg = gq_ns g := zn_c hf1 (by omega)
      refine ⟨zn_i hf1 hlt (by decide), fun f2 hf2 => ?_⟩
      have ef : za_u f 32 0 (gq_ns g) w 30 0 1 = nI (gq_ns g) := by rw [za_u_b (show (30 : Nat) ≠ 32 by decide)]; exact hf1
      rw [hcf, ef, nI_1, ← hf, hc1] at hf2
      have hM2 : gq_M (gq_addS g n w) (f2, (gm_t μ (mo_t x y)).2) := by rw [← hf2]; exact gq_M_addS hM1 hS.2.1
      refine ⟨d - 1, 0, 0, _, _, by omega, Nat.le_refl _, Nat.le_refl _, ct_M_forget (by omega), ?_, fun _ _ h => h.elim⟩
      rintro r μ2 ⟨rfl, hμ2⟩
      have hμ2 : μ2 = gm_f (f2, (gm_t μ (mo_t x y)).2) := hμ2
      subst hμ2
      refine ⟨rfl, ⟨⟨n, hS, hlt, ?_, ?_, gm_fM hM2⟩, ?_⟩, Nat.le_refl _, Nat.le_refl _⟩
      · rw [gm_fi (by decide) (by decide), hM2.1]
        exact nI_s1 _
      · rw [gm_fi (by decide) (by decide)]
        show f2 30 0 0 = 0
        rw [← hf2, za_u_i (by decide), za_u_b (show (30 : Nat) ≠ 32 by decide), za_u_b (show (30 : Nat) ≠ 31 by decide), gm_t0]
        exact ht
      · refine zq_tr (zq_tr (gm_tf (t := mo_t x y)) (?_ : zq_fr (fun b _ => 30 ≤ b) (gm_t μ (mo_t x y)) (f2, (gm_t μ (mo_t x y)).2))) gm_ff
        rw [← hf2]
        exact zq_u (b := (za_u (za_u (gm_t μ (mo_t x y)).1 31 0 (gq_ns g) a) 32 0 (gq_ns g) w, (gm_t μ (mo_t x y)).2)) (zq_u (b := (za_u (gm_t μ (mo_t x y)).1 31 0 (gq_ns g) a, (gm_t μ (mo_t x y)).2)) (zq_u zq_rf (show 30 ≤ 31 by decide)) (show 30 ≤ 32 by decide)) (Nat.le_refl 30)
    · rw [if_neg ht]
      refine ⟨fun q => absurd q (by decide), fun _ => ⟨rfl, Or.inl rfl, Nat.le_refl _, Nat.le_refl _, ⟨0, rfl, Or.inr ?_⟩, gm_tf⟩⟩
      by_cases e : x = 1
      · refine Or.inl ⟨fun z => absurd (e.symm.trans (hxS.mpr z)) (by decide), ?_, gm_tg h⟩
        rw [gm_t0]; exact t1 e
      · have e0 := hx.resolve_right e
        have ey : y = 1 := hy.resolve_left (fun z => ht (t0.mpr ⟨e0, z⟩))
        refine Or.inr ⟨hxS.mp e0, fun z => ?_, ?_, gm_tg h⟩
        · have := hy8.mp ey; omega
        · rw [gm_t0]; exact t2 e0 ey
  have c53 : ∀ v : Int32, (v = 0 ∨ v = 1) → (v = 1 ↔ ∃ n, gs_S g a w n) → ZZ 53 [some (za_r 30 0), some (za_i a), some (za_i w), none] [za_i v] μ (0, 0) := by
    intro v hv hvS
    have e1 : μ.1 30 0 1 = nI (gq_ns g) := h.1.1
    have c64 : ∀ x : Int32, (x = 0 ∨ x = 1) → (x = 0 ↔ ∃ n, gs_S g a w n) → ZZ 64 [some (za_r 30 0), some (za_i a), some (za_i w), some (za_i v)] [za_i x, za_r 30 0] μ (0, 0) := by
      intro x hx hxS
      refine run [78] 60 64 _ _ _ _ ?_
      refine ⟨fun q => c78 x 0 v hx (Or.inl rfl) hxS ⟨fun z => absurd z (by decide), fun z => absurd ?_ q⟩, fun q => c78 x 1 v hx (Or.inr rfl) hxS ⟨fun _ => ?_, fun _ => rfl⟩⟩
      · show μ.1 30 0 1 = 8
        rw [e1, z]; rfl
      · have q : μ.1 30 0 1 = 8 := q
        rw [e1] at q
        exact (nI_eq (b := 8) (by omega) (by decide)).mp q
    refine run [64] 60 53 _ _ _ _ ?_
    exact ⟨fun q => c64 0 (Or.inl rfl) ⟨fun _ => hvS.mp (zn_or01 hv q), fun _ => rfl⟩, fun q => c64 1 (Or.inr rfl) ⟨fun z => absurd z (by decide), fun z => absurd (q.symm.trans (hvS.mpr z)) (by decide)⟩⟩
  have no : ¬ (∃ n, gs_S g a w n) → ZZ 53 [some (za_r 30 0), some (za_i a), some (za_i w), none] [za_i 0] μ (0, 0) := fun q => c53 0 (Or.inl rfl) ⟨fun z => absurd z (by decide), fun z => absurd z q⟩
  have yes : (∃ n, gs_S g a w n) → ZZ 53 [some (za_r 30 0), some (za_i a), some (za_i w), none] [za_i 1] μ (0, 0) := fun q => c53 1 (Or.inr rfl) ⟨fun _ => q, fun _ => rfl⟩
  have c52 : ¬ (∃ n, gs_S g a w n) → ZZ 52 [some (za_r 30 0), some (za_i a), some (za_i w), none] [] μ (0, 0) := fun q => run [53] 20 52 _ _ _ _ (no q)
  refine run [52, 53] 60 0 _ _ _ _ ?_
  refine ⟨d - 1, 0, 0, _, _, by omega, Nat.le_refl _, Nat.le_refl _, ct_M_in (by omega), ?_, fun _ _ h => h.elim⟩
  rintro r μ1 ⟨rfl, hμ1⟩
  have hμ1 := hμ1.symm
  subst hμ1
  by_cases h6 : a < 0 ∨ 6 < a
  · rw [if_pos h6]
    refine ⟨fun _ => c52 ?_, fun q => absurd rfl q⟩
    rintro ⟨n, q1, q2, _⟩
    rcases h6 with h6 | h6
    · exact absurd h6 (by rw [q2]; exact gq_neg n (by omega))
    · exact absurd h6 (zn_nl (show (6 : Int32) = nI 6 from rfl) q2 q1 (by decide))
  · rw [if_neg h6]
    refine ⟨fun q => absurd q (by decide), fun _ => ?_⟩
    obtain ⟨n, hn, ha⟩ := nI_of (fun z => h6 (Or.inl z))
    have hn6 : n ≤ 6 := Classical.byContradiction fun q => h6 (Or.inr (zn_lt2 (show (6 : Int32) = nI 6 from rfl) ha (by omega) hn))
    have huq : ∀ k, k ≤ 6 → a = nI k → k = n := fun k q1 q2 => (nI_eq (by omega) (by omega)).mp (q2.symm.trans ha)
    refine ⟨d - 1, 0, 0, _, _, by omega, Nat.le_refl _, Nat.le_refl _, ct_M_in (by omega), ?_, fun _ _ h => h.elim⟩
    rintro r μ1 ⟨rfl, hμ1⟩
    have hμ1 := hμ1.symm
    subst hμ1
    rw [if_neg h6]
    refine ⟨fun q => absurd q (by decide), fun _ => ?_⟩
    refine ⟨d - 1, 0, 0, _, _, by omega, Nat.le_refl _, Nat.le_refl _, ct_M_in (by omega), ?_, fun _ _ h => h.elim⟩
    rintro r μ1 ⟨rfl, hμ1⟩
    have hμ1 := hμ1.symm
    subst hμ1
    have hin := gs_in (w := w) hn6
    rw [← ha] at hin
    by_cases hw : w < 0 ∨ ((1 : Int32) <<< (a &&& 31)) - 1 < w
    · rw [if_pos hw]
      refine ⟨fun _ => c52 ?_, fun q => absurd rfl q⟩
      rintro ⟨k, q1, q2, q3, _⟩
      rw [huq k q1 q2] at q3
      exact hin.mpr q3 hw
    · rw [if_neg hw]
      have hb := hin.mp hw
      have e1 : μ.1 30 0 1 = nI (gq_ns g) := h.1.1
      refine ⟨fun q => absurd q (by decide), fun _ => ⟨fun hs => yes ⟨n, hn6, ha, hb, fun z => ?_⟩, fun hs => ⟨fun hw0 => c52 ?_, fun hw0 => yes ⟨n, hn6, ha, hb, fun _ => hw0⟩⟩⟩⟩
      · have hs : 0 < μ.1 30 0 1 := hs
        rw [e1, z] at hs
        exact absurd hs (by decide)
      · rintro ⟨k, q1, q2, q3, q4⟩
        refine hw0 (q4 ?_)
        refine Classical.byContradiction fun z => hs ?_
        show 0 < μ.1 30 0 1
        rw [e1]
        exact zn_lt2 (show (0 : Int32) = nI 0 from rfl) rfl (by omega) (by omega)
