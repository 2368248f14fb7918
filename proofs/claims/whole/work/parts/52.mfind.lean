/-! the reference: findGraphs -/
def sm (f : Nat → Nat) : Nat → Nat
  | 0 => 0
  | n + 1 => sm f n + f n
theorem sm_le {f h : Nat → Nat} : ∀ n, (∀ i, i < n → f i ≤ h i) → sm f n ≤ sm h n
  | 0, _ => Nat.le_refl _
  | n + 1, q => Nat.add_le_add (sm_le n (fun i hi => q i (by omega))) (q n (by omega))
theorem sm_lt {f h : Nat → Nat} : ∀ n, (∀ i, i < n → f i ≤ h i) → (∃ i, i < n ∧ f i < h i) → sm f n < sm h n
  | 0, _, ⟨i, hi, _⟩ => by omega
  | n + 1, q, ⟨i, hi, z⟩ => by
    by_cases e : i = n
    · subst e
      exact Nat.add_lt_add_of_le_of_lt (sm_le i (fun j hj => q j (by omega))) z
    · exact Nat.add_lt_add_of_lt_of_le (sm_lt n (fun j hj => q j (by omega)) ⟨i, by omega, z⟩) (q n (by omega))
theorem sm_max {f : Nat → Nat} {c : Nat} : ∀ n, (∀ i, i < n → f i ≤ c) → sm f n ≤ c * n
  | 0, _ => Nat.zero_le _
  | n + 1, q => by
    have h1 := sm_max n (fun i hi => q i (by omega))
    have h2 := q n (by omega)
    rw [sm, Nat.mul_succ]
    omega
theorem mt_eq {μ μ' : za_M} (h35 : μ'.1 35 0 = μ.1 35 0) (h36 : μ'.2 36 0 = μ.2 36 0) (h30 : μ'.1 30 0 = μ.1 30 0) : mt_K μ' = mt_K μ ∧ mt_T μ' = mt_T μ ∧ mt_C μ' = mt_C μ ∧ (mt_ok μ → mt_ok μ') := by
  have e1 : mt_K μ' = mt_K μ := by funext s; unfold mt_K; rw [h35]
  refine ⟨e1, by funext s i; unfold mt_T; rw [h36], by unfold mt_C; rw [h30], fun h => ?_⟩
  unfold mt_ok
  rw [e1, h35, h36, h30]
  exact h
/-- closed, as the reference goes through them -/
def fg_cl (g : gq_G) (n : Nat) (μ : za_M) : Prop := ∀ q, q < n → ∀ idx, tb_ix (fun o => mt_n g q o (mt_K μ)) idx → tb_tr g q idx (mt_K μ) (mt_T μ) (mt_C μ)
def fg_I (g : gq_G) (μ μ1 : za_M) : Prop := mt_ok μ1 ∧ tb_so g (mt_K μ1) (mt_T μ1) (mt_C μ1) ∧ mt_dok μ1 ∧ (μ1.1 30 0 8 = 1 → gr_G g) ∧ (μ1.1 30 0 8 = 0 → ∀ s, s < 8 → mt_K μ1 s ≤ 10) ∧ mp_b μ μ1 ∧ μ1.1 30 0 7 = 1 ∧
  (μ1.1 30 0 8 = 0 → ∀ p, p < gq_np g → ∀ t, t < 3 → mt_d μ1 (3 * p + t) ≤ mt_n g p (t + 1) (mt_K μ1) ∧ (0 < mt_d μ1 (3 * p + t) → 0 < mt_n g p 1 (mt_K μ1) ∧ 0 < mt_n g p 2 (mt_K μ1) ∧ 0 < mt_n g p 3 (mt_K μ1))) ∧
  (μ1.1 30 0 8 = 0 → ∀ p, p < gq_np g → ∀ idx, idx 1 < mt_d μ1 (3 * p) → idx 2 < mt_d μ1 (3 * p + 1) → idx 3 < mt_d μ1 (3 * p + 2) → tb_tr g p idx (mt_K μ1) (mt_T μ1) (mt_C μ1))
def fg_R (g : gq_G) (μ μ0 : za_M) (k : Nat) (μ1 : za_M) (v : Int32) : Prop := fg_I g μ μ1 ∧ (v = 0 ∨ v = 1) ∧ (∀ i, i < 48 → mt_d μ0 i ≤ mt_d μ1 i) ∧ (v = 1 → sm (mt_d μ0) 48 < sm (mt_d μ1) 48) ∧ (v = 0 → μ1.1 30 0 8 = 0 → fg_cl g k μ1)
theorem mt_nm {g : gq_G} (hg : gq_ok g) {p : Nat} (hp : p < gq_np g) {K K' : Nat → Nat} {T T' : Nat → Nat → gr_T} {C C' : Prop} (h : tb_le K T C K' T' C') (o : Nat) : mt_n g p o K ≤ mt_n g p o K' := by
  unfold mt_n
  split
  · rename_i q; exact (h.1 _ (gq_sy8 hg hp q)).1
  · exact Nat.le_refl _
/-- a production worked on -/
theorem fg_w {g : gq_G} (hg : gq_ok g) {μ μ0 μ1 μ2 μ' : za_M} {k : Nat} {v v' w : Int32} (hk : k < gq_np g) (hI : fg_R g μ μ0 k μ1 v) (h80 : μ1.1 30 0 8 = 0) (hw : wk_I g k μ1 (fun o => mt_n g k o (mt_K μ1)) (fun _ => True) μ2 w) (h2 : μ'.2 = μ2.2) (h1 : ∀ b j, ¬ b = 37 → μ'.1 b j = μ2.1 b j) (h37j : ∀ j, ¬ j = 0 → μ'.1 37 j = μ2.1 37 j) (h37 : ∀ i, ¬ i / 3 = k → μ'.1 37 0 i = μ2.1 37 0 i)
    (h3 : ∀ t, t < 3 → μ'.1 37 0 (3 * k + t) = if 0 < mt_n g k 1 (mt_K μ1) ∧ 0 < mt_n g k 2 (mt_K μ1) ∧ 0 < mt_n g k 3 (mt_K μ1) then nI (mt_n g k (t + 1) (mt_K μ1)) else 0) (hv' : v' = 0 ∨ v' = 1) (hvw : v' = 1 ↔ (v = 1 ∨ w = 1)) : fg_R g μ μ0 (k + 1) μ' v' := by
  obtain ⟨⟨a1, a2, a3, a4, a5, a6, a7, a8, a9⟩, b1, b2, b3, b4⟩ := hI
  obtain ⟨w1, w2, w3, w4, w5, w6, w7, ⟨w8, w9, w10⟩, w11⟩ := hw
  obtain ⟨e1, e2, e3, e4⟩ := mt_eq (h1 35 0 (by decide)) (by rw [h2]) (h1 30 0 (by decide))
  have hm := (hg.2.2.2.2.1 k hk).1
  have hk16 : k < 16 := Nat.lt_of_lt_of_le hk hg.2.1
  have e8 : μ'.1 30 0 8 = μ2.1 30 0 8 := by rw [h1 30 0 (by decide)]
  have hn11 : ∀ o, mt_n g k o (mt_K μ1) ≤ 11 := fun o => by
    unfold mt_n
    split
    · rename_i h; have := a5 h80 _ (gq_sy8 hg hk h); omega
    · decide
  -- done
  have hd1 : ∀ i, i < 48 → ¬ i / 3 = k → mt_d μ' i = mt_d μ1 i := fun i _ q => by unfold mt_d; rw [h37 i q, w6]
  have hd2 : ∀ t, t < 3 → mt_d μ' (3 * k + t) = if 0 < mt_n g k 1 (mt_K μ1) ∧ 0 < mt_n g k 2 (mt_K μ1) ∧ 0 < mt_n g k 3 (mt_K μ1) then mt_n g k (t + 1) (mt_K μ1) else 0 := fun t ht => by
    unfold mt_d
    rw [h3 t ht]
    split
    · have := hn11 (t + 1); exact zn_cl (by omega)
    · rfl
  have hd3 : ∀ i, i < 48 → mt_d μ1 i ≤ mt_d μ' i := fun i hi => by
    by_cases q : i / 3 = k
    · obtain ⟨t, ht, rfl⟩ : ∃ t, t < 3 ∧ i = 3 * k + t := ⟨i % 3, by omega, by omega⟩
      have z := a8 h80 k hk t ht
      rw [hd2 t ht]
      split
      · exact z.1
      · rename_i hn
        exact Nat.le_of_not_lt (fun q => hn (z.2 q))
    · rw [hd1 i hi q]; exact Nat.le_refl _
  have hb : mp_b μ μ' := by
    refine mp_tr a6 (mp_tr w7 ⟨⟨fun b j q => ?_, fun b j q => by rw [h2]⟩, fun f _ _ => by rw [h1 30 0 (by decide)]⟩)
    by_cases e : b = 37
    · subst e
      exact h37j j (fun z => q ⟨by decide, z⟩)
    · exact h1 b j e
  have hlt : v' = 1 → sm (mt_d μ0) 48 < sm (mt_d μ') 48 := fun q => by
    rcases hvw.mp q with q | q
    · exact Nat.lt_of_lt_of_le (b3 q) (sm_le 48 hd3)
    · obtain ⟨idx, q1, q2⟩ := w10 q
      refine Nat.lt_of_le_of_lt (sm_le 48 b2) (sm_lt 48 hd3 ?_)
      have hall : 0 < mt_n g k 1 (mt_K μ1) ∧ 0 < mt_n g k 2 (mt_K μ1) ∧ 0 < mt_n g k 3 (mt_K μ1) := ⟨Nat.lt_of_le_of_lt (Nat.zero_le _) q1.1, Nat.lt_of_le_of_lt (Nat.zero_le _) q1.2.1, Nat.lt_of_le_of_lt (Nat.zero_le _) q1.2.2⟩
      obtain ⟨i1, i2, i3⟩ := q1
      dsimp only at i1 i2 i3
      rcases q2 with q2 | q2 | q2
      · refine ⟨3 * k + 0, by omega, ?_⟩
        rw [hd2 0 (by decide), if_pos hall]
        exact Nat.lt_of_le_of_lt q2 i1
      · refine ⟨3 * k + 1, by omega, ?_⟩
        rw [hd2 1 (by decide), if_pos hall]
        exact Nat.lt_of_le_of_lt q2 i2
      · refine ⟨3 * k + 2, by omega, ?_⟩
        rw [hd2 2 (by decide), if_pos hall]
        exact Nat.lt_of_le_of_lt q2 i3
  refine ⟨⟨e4 w1, by rw [e1, e2, e3]; exact w2, fun i hi => ?_, fun q => w4 (e8 ▸ q), fun q => by rw [e1]; exact w5 (e8 ▸ q), hb, ?_, fun q p hp t ht => ?_, fun q p hp idx q1 q2 q3 => ?_⟩, hv', fun i hi => Nat.le_trans (b2 i hi) (hd3 i hi), hlt, fun q0 q8 p hp idx hix => ?_⟩
  · by_cases c : i / 3 = k
    · obtain ⟨t, ht, rfl⟩ : ∃ t, t < 3 ∧ i = 3 * k + t := ⟨i % 3, by omega, by omega⟩
      rw [hd2 t ht, h3 t ht]
      have := hn11 (t + 1)
      split
      · exact ⟨rfl, this⟩
      · exact ⟨rfl, by omega⟩
    · rw [hd1 i hi c, h37 i c, w6]
      exact a3 i hi
  · rw [h1 30 0 (by decide), w7.2 7 (by decide) (by decide)]
    exact a7
  · rw [e1]
    by_cases c : p = k
    · subst c
      rw [hd2 t ht]
      split
      · rename_i hall
        exact ⟨mt_nm hg hp w3 _, fun _ => ⟨Nat.lt_of_lt_of_le hall.1 (mt_nm hg hp w3 _), Nat.lt_of_lt_of_le hall.2.1 (mt_nm hg hp w3 _), Nat.lt_of_lt_of_le hall.2.2 (mt_nm hg hp w3 _)⟩⟩
      · exact ⟨Nat.zero_le _, fun q => absurd q (Nat.lt_irrefl 0)⟩
    · have hp16 : p < 16 := Nat.lt_of_lt_of_le hp hg.2.1
      rw [hd1 _ (by omega) (by omega)]
      have z := a8 h80 p hp t ht
      exact ⟨Nat.le_trans z.1 (mt_nm hg hp w3 _), fun q => ⟨Nat.lt_of_lt_of_le (z.2 q).1 (mt_nm hg hp w3 _), Nat.lt_of_lt_of_le (z.2 q).2.1 (mt_nm hg hp w3 _), Nat.lt_of_lt_of_le (z.2 q).2.2 (mt_nm hg hp w3 _)⟩⟩
  · rw [e1, e2, e3]
    by_cases c : p = k
    · subst c
      refine w11 (e8 ▸ q) idx ?_ trivial
      have z0 := hd2 0 (by decide)
      have z1 := hd2 1 (by decide)
      have z2 := hd2 2 (by decide)
      rw [Nat.add_zero] at z0
      rw [z0] at q1
      rw [z1] at q2
      rw [z2] at q3
      by_cases hall : 0 < mt_n g p 1 (mt_K μ1) ∧ 0 < mt_n g p 2 (mt_K μ1) ∧ 0 < mt_n g p 3 (mt_K μ1)
      · rw [if_pos hall] at q1 q2 q3
        exact ⟨q1, q2, q3⟩
      · rw [if_neg hall] at q1
        exact absurd q1 (Nat.not_lt_zero _)
    · have hp16 : p < 16 := Nat.lt_of_lt_of_le hp hg.2.1
      rw [hd1 _ (by omega) (by omega)] at q1 q2 q3
      have z := a9 h80 p hp idx q1 q2 q3
      refine tb_trm hg hp (tb_ixin (hg.2.2.2.2.1 p hp).1 ⟨?_, ?_, ?_⟩) w3 z
      · exact Nat.lt_of_lt_of_le q1 (a8 h80 p hp 0 (by decide)).1
      · exact Nat.lt_of_lt_of_le q2 (a8 h80 p hp 1 (by decide)).1
      · exact Nat.lt_of_lt_of_le q3 (a8 h80 p hp 2 (by decide)).1
  · have hv0 : v = 0 := b1.resolve_right (fun z => absurd (hvw.mpr (Or.inl z)) (by rw [q0]; decide))
    have hw0 : w = 0 := w8.resolve_right (fun z => absurd (hvw.mpr (Or.inr z)) (by rw [q0]; decide))
    have hμ := w9 hw0
    rw [e1] at hix
    rw [e1, e2, e3]
    by_cases c : p = k
    · subst c
      rw [hμ] at hix
      exact w11 (e8 ▸ q8) idx hix trivial
    · rw [hμ] at hix ⊢
      exact b4 hv0 h80 p (by omega) idx hix
/-- what findGraphs leaves -/
def mt_fin (g : gq_G) (μ : za_M) : Prop := mt_ok μ ∧ tb_so g (mt_K μ) (mt_T μ) (mt_C μ) ∧ (μ.1 30 0 8 = 1 → gr_G g) ∧ (μ.1 30 0 8 = 0 → (∀ s, s < 8 → mt_K μ s ≤ 10) ∧ ∀ p, p < gq_np g → ∀ idx, tb_in g p idx (mt_K μ) → tb_tr g p idx (mt_K μ) (mt_T μ) (mt_C μ))
def mf_b (μ μ1 : za_M) : Prop := zq_fr mp_S μ μ1 ∧ ∀ f, f ≠ 7 → f ≠ 8 → f ≠ 9 → μ1.1 30 0 f = μ.1 30 0 f
set_option maxHeartbeats 8000000 in
theorem ct_M_findGraphs {Γ : zk_G} {d : Nat} {μ : za_M} {g : gq_G} (hg : gq_ok g) (hM : gq_M g μ) (hk : μ.1 30 0 7 = 0 ∨ μ.1 30 0 7 = 1 ∧ mt_fin g μ) (hd : 5 ≤ d) : zk_Ct zt Γ zm_M_findGraphs d 0 0 [za_r 30 0] μ
    (fun r μ' => r = none ∧ mt_fin g μ' ∧ μ'.1 30 0 7 = 1 ∧ mf_b μ μ') (fun _ _ => False) := by
  refine zs_M_findGraphs (Nat.le_of_ble_eq_true rfl) (by omega) (fun ZZ run => ?_)
  rcases hk with hk | ⟨hk, hfin⟩
  case inr =>
    refine run [] 20 0 _ _ _ _ ?_
    refine ⟨fun q => absurd (hk.symm.trans q) (by decide), fun _ => ?_⟩
    exact ⟨rfl, rfl, Nat.le_refl _, Nat.le_refl _, rfl, hfin, hk, zq_rf, fun _ _ _ _ => rfl⟩
  generalize hμa : ((za_u (za_u (za_u μ.1 30 0 7 1) 30 0 8 0) 30 0 9 0, μ.2) : za_M) = μa
  have f0 : mf_b μ μa := by
    rw [← hμa]
    refine ⟨zq_u (zq_u (zq_u zq_rf ⟨by decide, rfl⟩) ⟨by decide, rfl⟩) ⟨by decide, rfl⟩, fun f a b c => ?_⟩
    dsimp only
    rw [za_u_i c, za_u_i b, za_u_i a]
  have g7 : μa.1 30 0 7 = 1 := by rw [← hμa]; dsimp only; rw [za_u_i (by decide), za_u_i (by decide), za_u_same]
  have g8 : μa.1 30 0 8 = 0 := by rw [← hμa]; dsimp only; rw [za_u_i (by decide), za_u_same]
  have g9 : μa.1 30 0 9 = 0 := by rw [← hμa]; dsimp only; rw [za_u_same]
  have hMa : gq_M g μa := gq_M_fr hM f0.1 mp_S30.1 mp_S30.2.1 mp_S30.2.2.1 mp_S30.2.2.2 (f0.2 1 (by decide) (by decide) (by decide)) (f0.2 4 (by decide) (by decide) (by decide))
  have back : ∀ μ1, mp_b μa μ1 → mf_b μ μ1 := fun μ1 h => ⟨zq_tr f0.1 h.1, fun f a b c => (h.2 f b c).trans (f0.2 f a b c)⟩
  have hnp : gq_np g ≤ 16 := hg.2.1
  have wh := zn_wh (σ := za_M × Int32 × Option za_V × Option za_V)
    (P := fun t => ZZ 67 [some (za_r 30 0), some (za_i t.2.1), t.2.2.1, t.2.2.2] [] t.1 (0, 0))
    (I := fun t => fg_I g μa t.1 ∧ (t.2.1 = 0 ∨ t.2.1 = 1) ∧ (t.2.1 = 0 → t.1.1 30 0 8 = 0 → fg_cl g (gq_np g) t.1))
    (fun t => 2 * (600 - sm (mt_d t.1) 48) + t.2.1.toNatClampNeg)
    (fun t0 h ihw => by
      obtain ⟨h1, h2, h3⟩ := h
      have fin : ∀ (μ1 : za_M), fg_I g μa μ1 → (μ1.1 30 0 8 = 0 → fg_cl g (gq_np g) μ1) → (none : Option za_V) = none ∧ mt_fin g μ1 ∧ μ1.1 30 0 7 = 1 ∧ mf_b μ μ1 := by
        intro μ1 q1 q2
        refine ⟨rfl, ⟨q1.1, q1.2.1, q1.2.2.2.1, fun z => ⟨q1.2.2.2.2.1 z, fun p hp idx hin => tb_inix hin (q2 z p hp)⟩⟩, q1.2.2.2.2.2.2.1, back _ q1.2.2.2.2.2.1⟩
      refine run [67, 82] 60 67 _ _ _ _ ?_
      refine ⟨fun q => ?_, fun q => ⟨fun q2 => ?_, fun q2 => ?_⟩⟩
      · exact ⟨rfl, rfl, Nat.le_refl _, Nat.le_refl _, fin _ h1 (h3 q)⟩
      · exact ⟨rfl, rfl, Nat.le_refl _, Nat.le_refl _, fin _ h1 (fun z => absurd z q2)⟩
      · have hq1 := zn_or01 h2 q
        have loop := zn_for (σ := za_M × Int32 × Option za_V) (N := gq_np g)
          (P := fun k t => ∀ y : Int32, y = nI k → ZZ 82 [some (za_r 30 0), some (za_i t.2.1), some (za_i y), t.2.2] [] t.1 (0, 0))
          (I := fun k t => fg_R g μa t0.1 k t.1 t.2.1)
          (fun t h y hy => by
            have hM1 := mp_M hMa h.1.2.2.2.2.2.1
            refine run [67, 82] 60 82 _ _ _ _ ?_
            refine ⟨fun _ => ?_, fun q => absurd (by rw [hM1.2.1, hy]; exact Int32.le_refl _) q⟩
            refine ihw (t.1, t.2.1, some (za_i y), t.2.2) ⟨h.1, h.2.1, h.2.2.2.2⟩ ?_
            have z1 := sm_le 48 h.2.2.1
            have z2 := sm_max (c := 11) 48 (fun i hi => (h.1.2.2.1 i hi).2)
            dsimp only
            rw [hq1, show (1 : Int32).toNatClampNeg = 1 by decide]
            rcases h.2.1 with e | e
            · rw [e, zn_c0]; omega
            · have z3 := h.2.2.2.1 e
              rw [e, show (1 : Int32).toNatClampNeg = 1 by decide]
              omega)
          (fun k t hk h ih y hy => by
            have hM1 := mp_M hMa h.1.2.2.2.2.2.1
            have e8 : t.1.1 30 0 8 = 0 ∨ t.1.1 30 0 8 = 1 := h.1.1.2.2
            refine run [82] 60 82 _ _ _ _ ?_
            refine ⟨fun q => absurd q (zn_ge hy hM1.2.1 hk (by omega)), fun _ => ⟨fun z8 => ?_, fun z8 => ?_⟩⟩
            · refine ⟨fun z => ?_, fun z => ⟨fun _ => ?_, fun z2 => absurd z2 z8⟩⟩
              · exact ⟨rfl, rfl, Nat.le_refl _, Nat.le_refl _, fin _ h.1 (fun z => absurd z z8)⟩
              · exact ⟨rfl, rfl, Nat.le_refl _, Nat.le_refl _, fin _ h.1 (fun z => absurd z z8)⟩
            · refine ⟨d - 1, 0, 0, _, _, by omega, Nat.le_refl _, Nat.le_refl _, ct_M_work hg hM1 h.1.1 h.1.2.1 h.1.2.2.1 (h.1.2.2.2.2.1 z8) z8 hy hk (fun idx q1 q2 q3 _ => h.1.2.2.2.2.2.2.2.2 z8 k hk idx q1 q2 q3) (by omega), ?_, fun _ _ h => h.elim⟩
              rintro r μ' ⟨w, μ2, rfl, hw, k1, k2, k3, k4, k5⟩
              have hw01 := hw.2.2.2.2.2.2.2.1.1
              refine ⟨fun z => ?_, fun z => ⟨fun z2 => ?_, fun z2 => ?_⟩⟩
              · exact ih (μ', 1, some (za_i w)) (fg_w hg hk h z8 hw k1 k2 k3 k4 k5 (Or.inr rfl) ⟨fun _ => Or.inl (zn_or01 h.2.1 z), fun _ => rfl⟩) _ (zn_s hy)
              · exact ih (μ', 0, some (za_i w)) (fg_w hg hk h z8 hw k1 k2 k3 k4 k5 (Or.inl rfl) ⟨fun q => absurd q (show ¬ (0 : Int32) = 1 by decide), fun q => q.elim (fun q => absurd (q.symm.trans z) (by decide)) (fun q => absurd (q.symm.trans z2) (by decide))⟩) _ (zn_s hy)
              · exact ih (μ', 1, some (za_i w)) (fg_w hg hk h z8 hw k1 k2 k3 k4 k5 (Or.inr rfl) ⟨fun _ => Or.inr (zn_or01 hw01 z2), fun _ => rfl⟩) _ (zn_s hy))
        exact loop 0 (t0.1, 0, t0.2.2.2) (Nat.zero_le _) ⟨h1, Or.inl rfl, fun i _ => Nat.le_refl _, fun q => absurd q (show ¬ (0 : Int32) = 1 by decide), fun _ _ q hq => absurd hq (Nat.not_lt_zero q)⟩ 0 rfl)
  have l2 := zn_for (σ := za_M) (N := 48)
    (P := fun k μ1 => ∀ y : Int32, y = nI k → ZZ 46 [some (za_r 30 0), some (za_i y), none, none] [] μ1 (0, 0))
    (I := fun k μ1 => mp_b μa μ1 ∧ (∀ s, s < 8 → μ1.1 35 0 s = 0) ∧ μ1.1 30 0 = μa.1 30 0 ∧ ∀ i, i < k → μ1.1 37 0 i = 0)
    (fun μ1 h y hy => by
      obtain ⟨i1, i2, i3, i4⟩ := h
      have hK : ∀ s, s < 8 → mt_K μ1 s = 0 := fun s hs => by unfold mt_K; rw [i2 s hs]; rfl
      have hD : ∀ i, i < 48 → mt_d μ1 i = 0 := fun s hs => by unfold mt_d; rw [i4 s hs]; rfl
      refine run [67] 60 46 _ _ _ _ ?_
      refine ⟨fun _ => ?_, fun q => absurd (by rw [hy]; exact nI_le (Nat.le_refl 48) (by decide)) q⟩
      refine wh (μ1, 1, none, none) ⟨⟨⟨fun s hs => ?_, ?_, ?_⟩, ⟨fun s i hs hi => ?_, fun s i j hs hi => ?_, fun q => ?_⟩, fun i hi => ?_, fun q => ?_, fun _ s hs => ?_, i1, ?_, fun _ p hp t ht => ?_, fun _ p hp idx q1 => ?_⟩, Or.inr rfl, fun q => absurd q (show ¬ (1 : Int32) = 0 by decide)⟩
      · rw [hK s hs]
        exact ⟨i2 s hs, by omega, fun i hi => absurd hi (Nat.not_lt_zero i)⟩
      · dsimp only
        rw [i3, g9]; exact Or.inl rfl
      · dsimp only
        rw [i3, g8]; exact Or.inl rfl
      · rw [hK s hs] at hi; exact absurd hi (Nat.not_lt_zero i)
      · rw [hK s hs] at hi; exact absurd hi (Nat.not_lt_zero i)
      · unfold mt_C at q
        rw [i3, g9] at q
        exact absurd q (by decide)
      · rw [hD i hi]
        exact ⟨i4 i hi, by omega⟩
      · dsimp only at q
        rw [i3, g8] at q
        exact absurd q (by decide)
      · rw [hK s hs]; omega
      · dsimp only
        rw [i3, g7]
      · dsimp only
        rw [hD _ (by omega)]
        exact ⟨Nat.zero_le _, fun q => absurd q (Nat.lt_irrefl 0)⟩
      · dsimp only at q1
        rw [hD _ (by omega)] at q1
        exact absurd q1 (Nat.not_lt_zero _))
    (fun k μ1 hk h ih y hy => by
      obtain ⟨i1, i2, i3, i4⟩ := h
      have hck : y.toNatClampNeg = k := zn_c hy (by omega)
      refine run [46] 60 46 _ _ _ _ ?_
      refine ⟨fun q => absurd q (zn_ge hy rfl hk (by decide)), fun _ => ⟨zn_i hy hk (by decide), ?_⟩⟩
      refine ih _ ⟨⟨zq_u i1.1 ⟨by decide, rfl⟩, fun f a b => ?_⟩, fun s hs => ?_, ?_, fun i hi => ?_⟩ _ (zn_s hy)
      · dsimp only
        rw [za_u_b (show (30 : Nat) ≠ 37 by decide)]
        exact i1.2 f a b
      · dsimp only
        rw [za_u_b (show (35 : Nat) ≠ 37 by decide)]
        exact i2 s hs
      · dsimp only
        rw [za_u_b (show (30 : Nat) ≠ 37 by decide)]
        exact i3
      · dsimp only
        rw [hck]
        by_cases e : i = k
        · subst e; rw [za_u_same]
        · rw [za_u_i e]; exact i4 i (by omega))
  have l1 := zn_for (σ := za_M) (N := 8)
    (P := fun k μ1 => ∀ y : Int32, y = nI k → ZZ 25 [some (za_r 30 0), some (za_i y), none, none] [] μ1 (0, 0))
    (I := fun k μ1 => mp_b μa μ1 ∧ (∀ s, s < k → μ1.1 35 0 s = 0) ∧ μ1.1 30 0 = μa.1 30 0)
    (fun μ1 h y hy => by
      refine run [46] 60 25 _ _ _ _ ?_
      refine ⟨fun _ => ?_, fun q => absurd (by rw [hy]; exact nI_le (Nat.le_refl 8) (by decide)) q⟩
      exact l2 0 μ1 (Nat.zero_le _) ⟨h.1, h.2.1, h.2.2, fun i hi => absurd hi (Nat.not_lt_zero i)⟩ 0 rfl)
    (fun k μ1 hk h ih y hy => by
      obtain ⟨i1, i2, i3⟩ := h
      have hck : y.toNatClampNeg = k := zn_c hy (by omega)
      refine run [25] 60 25 _ _ _ _ ?_
      refine ⟨fun q => absurd q (zn_ge hy rfl hk (by decide)), fun _ => ⟨zn_i hy hk (by decide), ?_⟩⟩
      refine ih _ ⟨⟨zq_u i1.1 ⟨by decide, rfl⟩, fun f a b => ?_⟩, fun s hs => ?_, ?_⟩ _ (zn_s hy)
      · dsimp only
        rw [za_u_b (show (30 : Nat) ≠ 35 by decide)]
        exact i1.2 f a b
      · dsimp only
        rw [hck]
        by_cases e : s = k
        · subst e; rw [za_u_same]
        · rw [za_u_i e]; exact i2 s (by omega)
      · dsimp only
        rw [za_u_b (show (30 : Nat) ≠ 35 by decide)]
        exact i3)
  refine run [25] 60 0 _ _ _ _ ?_
  refine ⟨fun _ => ⟨Or.inr rfl, Or.inl rfl, Or.inl rfl, ?_⟩, fun q => absurd hk q⟩
  rw [← hμa] at l1
  exact l1 0 _ (Nat.zero_le _) ⟨mp_rf, fun i hi => absurd hi (Nat.not_lt_zero i), rfl⟩ 0 rfl
