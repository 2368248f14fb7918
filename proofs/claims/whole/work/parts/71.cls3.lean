/-! the class: answers -/
theorem ga_Nc' {g : gq_G} {tb : Bool} {J : Nat} {μ μ' : za_M} (h : ga_N g tb J μ) (h1 : μ'.1 24 J = μ.1 24 J) (h2 : ∀ s, s < 8 → μ'.1 26 (8 * J + s) = μ.1 26 (8 * J + s)) : ga_N g tb J μ' := by
  unfold ga_N nu_fin at h ⊢
  rw [h1]
  refine ⟨h.1.imp id (fun q => ⟨q.1, ?_⟩), h.2⟩
  obtain ⟨n, q1, q2, q3, q4⟩ := q.2
  refine ⟨n, q1, q2, fun s a hs ha => ?_, q4⟩
  rw [h2 s hs]
  exact q3 s a hs ha
/-- how many graphs a symbol has -/
def gs_cnt (g : gq_G) (s c : Nat) : Prop := ∃ (K : Nat → Nat) (T : Nat → Nat → gr_T) (C : Prop), tb_so g K T C ∧ (∀ s G, s < 8 → (gr_L g s G ↔ ∃ i, i < K s ∧ T s i = G)) ∧ c = K s ∧ c ≤ 10
theorem gs_cnt_uq {g : gq_G} {s c c' : Nat} (h8 : s < 8) (h : gs_cnt g s c) (h' : gs_cnt g s c') : c = c' := by
  obtain ⟨K, T, C, h1, h2, h3, _⟩ := h
  obtain ⟨K', T', C', h1', h2', h3', _⟩ := h'
  rw [h3, h3']
  exact tb_eq h1 h1' h2 h2' h8
set_option maxHeartbeats 4000000 in
theorem ct_A_findGraphs {Γ : zk_G} {d : Nat} {μ : za_M} {g : gq_G} (hg : gq_ok g) (h : ga g μ) (hd : 9 ≤ d) : zk_Ct zt Γ zm_A_findGraphs d 1 6 [za_r 0 0] μ
    (fun r μ' => r = none ∧ ¬ gr_G g ∧ (∀ s, s < 8 → ∃ c, gs_cnt g s c ∧ μ'.1 12 0 s = nI c) ∧ (μ'.1 11 0 2 = 0 ∨ μ'.1 11 0 2 = 1) ∧ (μ'.1 11 0 2 = 1 ↔ gr_C g) ∧ ga g μ' ∧ zq_fr (fun b _ => b ≤ 28) μ μ')
    (fun E μ' => E = 1 ∧ gr_G g ∧ ga g μ' ∧ zq_fr (fun b _ => b ≤ 28) μ μ') := by
  refine zX_A_findGraphs (Nat.le_of_ble_eq_true rfl) (by omega) (fun ZZ run => ?_)
  refine run [] 60 0 _ _ _ _ ?_
  refine ⟨d - 1, 0, 0, _, _, by omega, Nat.zero_le _, Nat.zero_le _, ct_T_find hg h.1 h.2.1 (by omega), ?_, fun _ _ h => h.elim⟩
  rintro r μ1 ⟨rfl, hfin, hk, hf⟩
  have hga : ga g μ1 := ⟨tf_Cg h.1 hf, Or.inr ⟨hk, hfin⟩, ga_Rc h.2.2.1 (hf.1 20 0 (by unfold tf_S; decide)) (hf.1 21 0 (by unfold tf_S; decide)) (hf.2 22 0 (by unfold tf_S; decide)) (hf.2 23 0 (by unfold tf_S; decide)),
    ga_Nc h.2.2.2.1 (hf.1 24 0 (by unfold tf_S; decide)) (fun s => hf.1 26 _ (fun q => by unfold tf_S at q; omega)), ga_Nc h.2.2.2.2 (hf.1 24 1 (by unfold tf_S; decide)) (fun s => hf.1 26 _ (fun q => by unfold tf_S at q; omega))⟩
  have hfr : zq_fr (fun b _ => b ≤ 28) μ μ1 := zq_up hf (fun b j q => by unfold tf_S at q; omega)
  have h01 := hfin.1.1.2.2
  refine ⟨fun q => ⟨rfl, rfl, Nat.zero_le _, Nat.zero_le _, rfl, ?_⟩, fun q => ⟨rfl, Nat.le_refl _, Nat.le_refl _, rfl, hfin.1.2.2 (zn_or01 h01 q), hga, hfr⟩⟩
  have hcl := tb_cl hg hfin.1.2.1 (hfin.2 q)
  refine ⟨tb_no hcl.1 (fun s hs => (hfin.1.1.1 s hs).2), fun s hs => ⟨tg_K μ1 s, ⟨_, _, _, hfin.1.2.1, hcl.1, rfl, (hfin.1.1.1 s hs).2⟩, (hfin.1.1.1 s hs).1⟩, hfin.1.1.2.1, hcl.2, hga, hfr⟩
theorem ct_A_graphs {Γ : zk_G} {d : Nat} {s : Int32} {μ : za_M} {g : gq_G} (hg : gq_ok g) (h : ga g μ) (hd : 10 ≤ d) : zk_Ct zt Γ zm_A_graphs d 2 12 [za_r 0 0, za_i s] μ
    (fun r μ' => (∃ k c, k < gq_ns g ∧ s = nI k ∧ ¬ gr_G g ∧ gs_cnt g k c ∧ r = some (za_i (nI c))) ∧ ga g μ' ∧ zq_fr (fun b _ => b ≤ 28) μ μ')
    (fun E μ' => (E = 2 ∧ ¬ (∃ k, k < gq_ns g ∧ s = nI k) ∨ E = 1 ∧ (∃ k, k < gq_ns g ∧ s = nI k) ∧ gr_G g) ∧ ga g μ' ∧ zq_fr (fun b _ => b ≤ 28) μ μ') := by
  have hns := hg.1
  refine zX_A_graphs (Nat.le_of_ble_eq_true rfl) (by omega) (fun ZZ run => ?_)
  refine run [] 60 0 _ _ _ _ ?_
  refine ⟨d - 1, 1, 6, _, _, by omega, by decide, by decide, ct_A_checkSymbol hg h (by omega), ?_, ?_⟩
  · rintro r μ1 ⟨rfl, ⟨k, hk, hs⟩, hμ1⟩
    have hμ1 := hμ1.symm
    subst hμ1
    refine ⟨d - 1, 1, 6, _, _, by omega, by decide, by decide, ct_A_findGraphs hg h (by omega), ?_, ?_⟩
    · rintro r μ1 ⟨rfl, hG, hcnt, _, _, hga, hfr⟩
      obtain ⟨c, hc, ec⟩ := hcnt k (by omega)
      have hck : s.toNatClampNeg = k := zn_c hs (by omega)
      refine ⟨zn_i hs (by omega) (by decide), rfl, Or.inl rfl, by decide, by decide, ⟨k, c, hk, hs, hG, hc, ?_⟩, hga, hfr⟩
      rw [hck, ec]
    · rintro E μ1 ⟨rfl, hG, hga, hfr⟩
      exact ⟨by decide, by decide, Or.inr ⟨rfl, ⟨k, hk, hs⟩, hG⟩, hga, hfr⟩
  · rintro E μ1 ⟨rfl, hno, hμ1⟩
    have hμ1 := hμ1.symm
    subst hμ1
    exact ⟨by decide, by decide, Or.inl ⟨rfl, hno⟩, h, zq_rf⟩
theorem ct_A_circular {Γ : zk_G} {d : Nat} {μ : za_M} {g : gq_G} (hg : gq_ok g) (h : ga g μ) (hd : 10 ≤ d) : zk_Ct zt Γ zm_A_circular d 1 6 [za_r 0 0] μ
    (fun r μ' => (¬ gr_G g ∧ ∃ v : Int32, r = some (za_i v) ∧ (v = 0 ∨ v = 1) ∧ (v = 1 ↔ gr_C g)) ∧ ga g μ' ∧ zq_fr (fun b _ => b ≤ 28) μ μ')
    (fun E μ' => (E = 1 ∧ gr_G g) ∧ ga g μ' ∧ zq_fr (fun b _ => b ≤ 28) μ μ') := by
  refine zX_A_circular (Nat.le_of_ble_eq_true rfl) (by omega) (fun ZZ run => ?_)
  refine run [] 60 0 _ _ _ _ ?_
  refine ⟨d - 1, 1, 6, _, _, by omega, by decide, by decide, ct_A_findGraphs hg h (by omega), ?_, ?_⟩
  · rintro r μ1 ⟨rfl, hG, _, h01, hC, hga, hfr⟩
    exact ⟨rfl, Or.inr ⟨rfl, h01⟩, by decide, by decide, ⟨hG, _, rfl, h01, hC⟩, hga, hfr⟩
  · rintro E μ1 ⟨rfl, hG, hga, hfr⟩
    exact ⟨by decide, by decide, ⟨rfl, hG⟩, hga, hfr⟩
theorem ga_Rf {g : gq_G} {μ μ1 : za_M} (h : ga g μ) (hk : μ1.1 20 0 0 = 1) (hfin : cl_fin g μ1) (hf : zq_fr cl_rS μ μ1) : ga g μ1 ∧ zq_fr (fun b _ => b ≤ 28) μ μ1 :=
  ⟨⟨cl_rg h.1 hf, ga_Tc h.2.1 (hf.1 11 0 (by unfold cl_rS; decide)) (hf.1 12 0 (by unfold cl_rS; decide)) (fun s => hf.2 14 s (fun q => by unfold cl_rS at q; omega)), Or.inr ⟨hk, hfin⟩,
    ga_Nc h.2.2.2.1 (hf.1 24 0 (by unfold cl_rS; decide)) (fun s => hf.1 26 _ (fun q => by unfold cl_rS at q; omega)), ga_Nc h.2.2.2.2 (hf.1 24 1 (by unfold cl_rS; decide)) (fun s => hf.1 26 _ (fun q => by unfold cl_rS at q; omega))⟩,
    zq_up hf (fun b j q => by unfold cl_rS at q; omega)⟩
theorem ct_A_strong {Γ : zk_G} {d : Nat} {μ : za_M} {g : gq_G} (hg : gq_ok g) (h : ga g μ) (hd : 6 ≤ d) : zk_Ct zt Γ zm_A_strong d 0 0 [za_r 0 0] μ
    (fun r μ' => (∃ v : Int32, r = some (za_i v) ∧ (v = 0 ∨ v = 1) ∧ (v = 1 ↔ ¬ ∃ p, p < gq_np g ∧ un_c g p (fun _ => un_no))) ∧ ga g μ' ∧ zq_fr (fun b _ => b ≤ 28) μ μ') (fun _ _ => False) := by
  refine zs_A_strong (Nat.le_of_ble_eq_true rfl) (by omega) (fun ZZ run => ?_)
  refine run [] 60 0 _ _ _ _ ?_
  refine ⟨d - 1, 0, 0, _, _, by omega, Nat.zero_le _, Nat.zero_le _, ct_R_find hg h.1 h.2.2.1 (by omega), ?_, fun _ _ h => h.elim⟩
  rintro r μ1 ⟨rfl, hfin, hk, hf⟩
  obtain ⟨hga, hfr⟩ := ga_Rf h hk hfin hf
  obtain ⟨c1, c2⟩ := hfin.2.2.2.1
  refine ⟨fun q => ⟨rfl, Or.inr ⟨rfl, Or.inl rfl⟩, Nat.le_refl _, Nat.le_refl _, ⟨0, rfl, Or.inl rfl, fun z => absurd z (by decide), fun z => absurd (c2.mp (zn_or01 c1 q)) z⟩, hga, hfr⟩, fun q => ⟨rfl, Or.inr ⟨rfl, Or.inr rfl⟩, Nat.le_refl _, Nat.le_refl _, ⟨1, rfl, Or.inr rfl, fun _ z => absurd (q.symm.trans (c2.mpr z)) (by decide), fun _ => rfl⟩, hga, hfr⟩⟩
theorem ct_A_doubly {Γ : zk_G} {d : Nat} {μ : za_M} {g : gq_G} (hg : gq_ok g) (h : ga g μ) (hd : 6 ≤ d) : zk_Ct zt Γ zm_A_doubly d 0 0 [za_r 0 0] μ
    (fun r μ' => (∃ v : Int32, r = some (za_i v) ∧ (v = 0 ∨ v = 1) ∧ (v = 1 ↔ ¬ ∃ p, p < gq_np g ∧ un_c g p (un_Q (un_Y g)))) ∧ ga g μ' ∧ zq_fr (fun b _ => b ≤ 28) μ μ') (fun _ _ => False) := by
  refine zs_A_doubly (Nat.le_of_ble_eq_true rfl) (by omega) (fun ZZ run => ?_)
  refine run [] 60 0 _ _ _ _ ?_
  refine ⟨d - 1, 0, 0, _, _, by omega, Nat.zero_le _, Nat.zero_le _, ct_R_find hg h.1 h.2.2.1 (by omega), ?_, fun _ _ h => h.elim⟩
  rintro r μ1 ⟨rfl, hfin, hk, hf⟩
  obtain ⟨hga, hfr⟩ := ga_Rf h hk hfin hf
  obtain ⟨c1, c2⟩ := hfin.2.2.2.2
  refine ⟨fun q => ⟨rfl, Or.inr ⟨rfl, Or.inl rfl⟩, Nat.le_refl _, Nat.le_refl _, ⟨0, rfl, Or.inl rfl, fun z => absurd z (by decide), fun z => absurd (c2.mp (zn_or01 c1 q)) z⟩, hga, hfr⟩, fun q => ⟨rfl, Or.inr ⟨rfl, Or.inr rfl⟩, Nat.le_refl _, Nat.le_refl _, ⟨1, rfl, Or.inr rfl, fun _ z => absurd (q.symm.trans (c2.mpr z)) (by decide), fun _ => rfl⟩, hga, hfr⟩⟩
/-- an attribute -/
def gs_at (g : gq_G) (s a : Int32) (k j : Nat) : Prop := (k < gq_ns g ∧ s = nI k) ∧ j < gq_at g k ∧ a = nI j
/-- what relation answers -/
def gs_rel (g : gq_G) (k j : Nat) (fa : Bool) (v : Int32) : Prop := (¬ un_X g k ∧ v = -1) ∨ (un_X g k ∧ ∀ b, bt v b = true ↔ (b < 8 ∧ (if fa = true then un_Y g (64 * k + 8 * j + b) else un_X g (8 + 64 * k + 8 * j + b))))
theorem gs_rel_uq {g : gq_G} {k j : Nat} {fa : Bool} {v v' : Int32} (h : gs_rel g k j fa v) (h' : gs_rel g k j fa v') : v = v' := by
  rcases h with ⟨h1, h2⟩ | ⟨h1, h2⟩
  · rcases h' with ⟨h1', h2'⟩ | ⟨h1', h2'⟩
    · rw [h2, h2']
    · exact absurd h1' h1
  · rcases h' with ⟨h1', h2'⟩ | ⟨h1', h2'⟩
    · exact absurd h1 h1'
    · refine b_ext fun i _ => ?_
      rw [Bool.eq_iff_iff, h2 i, h2' i]
theorem ct_A_rowOf' {Γ : zk_G} {d a : Nat} {n : Int32} {r : Int64} {μ : za_M} (hn : n = nI a) (hd : 1 ≤ d) : zk_Ct zt Γ zm_A_rowOf d 0 0 [za_l r, za_i n] μ (fun v μ' => v = some (za_i (rw_of r a)) ∧ μ' = μ) (fun _ _ => False) := by
  subst hn
  exact ct_A_rowOf hd
set_option maxHeartbeats 4000000 in
theorem ct_A_relation {Γ : zk_G} {d : Nat} {s a l : Int32} {fa : Bool} {μ : za_M} {g : gq_G} (hg : gq_ok g) (h : ga g μ) (hl : l = if fa = true then 1 else 0) (hd : 7 ≤ d) : zk_Ct zt Γ zm_A_relation d 2 12 [za_r 0 0, za_i s, za_i a, za_i l] μ
    (fun r μ' => (∃ k j v, gs_at g s a k j ∧ gs_rel g k j fa v ∧ r = some (za_i v)) ∧ ga g μ' ∧ zq_fr (fun b _ => b ≤ 28) μ μ')
    (fun E μ' => (E = 2 ∧ ¬ ∃ k j, gs_at g s a k j) ∧ μ' = μ) := by
  have hns := hg.1
  refine zX_A_relation (Nat.le_of_ble_eq_true rfl) (by omega) (fun ZZ run => ?_)
  refine run [61] 60 0 _ _ _ _ ?_
  refine ⟨d - 1, 1, 6, _, _, by omega, by decide, by decide, ct_A_checkSymbol hg h (by omega), ?_, ?_⟩
  case refine_2 =>
    rintro E μ1 ⟨rfl, hno, hμ1⟩
    exact ⟨by decide, by decide, ⟨rfl, fun ⟨k, j, z, _⟩ => hno ⟨k, z⟩⟩, hμ1⟩
  rintro r μ1 ⟨rfl, ⟨k, hk, hs⟩, hμ1⟩
  have hμ1 := hμ1.symm
  subst hμ1
  refine ⟨d - 1, 1, 6, _, _, by omega, by decide, by decide, ct_A_checkAttribute hg h hs hk (by omega), ?_, ?_⟩
  case refine_2 =>
    rintro E μ1 ⟨rfl, hno, hμ1⟩
    refine ⟨by decide, by decide, ⟨rfl, fun ⟨k', j, z, z2⟩ => hno ⟨j, ?_⟩⟩, hμ1⟩
    rw [show k = k' from (nI_eq (by omega) (by omega)).mp (hs.symm.trans z.2)]
    exact z2
  rintro r μ1 ⟨rfl, ⟨j, hj, ha⟩, hμ1⟩
  have hμ1 := hμ1.symm
  subst hμ1
  have hat : gs_at g s a k j := ⟨⟨hk, hs⟩, hj, ha⟩
  have hj6 := (hg.2.2.1 k hk).1
  refine ⟨d - 1, 0, 0, _, _, by omega, by decide, by decide, ct_R_find hg h.1 h.2.2.1 (by omega), ?_, fun _ _ h => h.elim⟩
  rintro r μ1 ⟨rfl, hfin, hkn, hf⟩
  obtain ⟨hga, hfr⟩ := ga_Rf h hkn hfin hf
  have hck : s.toNatClampNeg = k := zn_c hs (by omega)
  have hb : vp_in s 8 := zn_i hs (by omega) (by decide)
  have h01 := hfin.2.2.1 k (by omega)
  have hX : μ1.1 21 0 k = 1 ↔ un_X g k := (cl_xs μ1 (by omega)).symm.trans (hfin.1 k)
  have c61 : ∀ (w : Int64), un_X g k → (∀ b, b < 8 → (bl w (8 * j + b) = true ↔ (if fa = true then un_Y g (64 * k + 8 * j + b) else un_X g (8 + 64 * k + 8 * j + b)))) → ZZ 61 [some (za_r 0 0), some (za_i s), some (za_i a), some (za_i l)] [za_l w] μ1 (2, 12) := by
    intro w hx hw
    refine run [] 60 61 _ _ _ _ ?_
    refine ⟨d - 1, 0, 0, _, _, by omega, by decide, by decide, ct_A_rowOf' ha (by omega), ?_, fun _ _ h => h.elim⟩
    rintro r μ2 ⟨rfl, hμ2⟩
    have hμ2 := hμ2.symm
    subst hμ2
    refine ⟨rfl, Or.inl rfl, by decide, by decide, ⟨k, j, _, hat, Or.inr ⟨hx, fun b => ?_⟩, rfl⟩, hga, hfr⟩
    by_cases hb32 : b < 32
    · rw [rw_of_bt _ (by omega) hb32, Bool.and_eq_true, decide_eq_true_eq]
      exact and_congr_right fun q => hw b q
    · rw [b_big (Nat.le_of_not_lt hb32)]
      exact ⟨fun z => absurd z (by decide), fun z => absurd z.1 (by omega)⟩
  refine ⟨hb, fun q => ?_, fun q => ?_⟩
  · have q : ¬ μ1.1 21 0 s.toNatClampNeg = 0 := q
    rw [hck] at q
    have hx := hX.mp (zn_or01 h01 q)
    refine ⟨fun ql => ⟨hb, c61 _ hx (fun b hb8 => ?_)⟩, fun ql => ⟨hb, c61 _ hx (fun b hb8 => ?_)⟩⟩
    · have hfa : fa = false := by
        cases hq : fa with
        | false => rfl
        | true => rw [hl, hq] at ql; exact absurd ql (by decide)
      rw [hfa, if_neg (by decide), hck, ← cl_xu μ1 (by omega) (by omega) hb8, hfin.1]
    · have hfa : fa = true := by
        cases hq : fa with
        | true => rfl
        | false => rw [hl, hq] at ql; exact absurd rfl ql
      rw [hfa, if_pos rfl, hck, ← cl_yu μ1 (by omega) (by omega) hb8, hfin.2.1]
  · have q : μ1.1 21 0 s.toNatClampNeg = 0 := q
    rw [hck] at q
    exact ⟨rfl, Or.inl rfl, by decide, by decide, ⟨k, j, -1, hat, Or.inl ⟨fun z => absurd (q.symm.trans (hX.mpr z)) (by decide), rfl⟩, rfl⟩, hga, hfr⟩
/-- what pass and passes answer -/
def gs_pass (g : gq_G) (tb : Bool) (k j : Nat) (v : Int32) : Prop := ∃ n, ps_end g tb n ∧ n ≤ 200 ∧ v = nu_v (ps_nb g tb n (8 * k + j))
def gs_passes (g : gq_G) (tb : Bool) (v : Int32) : Prop := ∃ n, ps_end g tb n ∧ n ≤ 200 ∧ (((∀ i, ps_at g i → ps_nb g tb n i ≠ 0) ∧ v = nI (ps_la g tb n)) ∨ (¬ (∀ i, ps_at g i → ps_nb g tb n i ≠ 0) ∧ v = -1))
theorem gs_pass_uq {g : gq_G} {tb : Bool} {k j : Nat} {v v' : Int32} (h : gs_pass g tb k j v) (h' : gs_pass g tb k j v') : v = v' := by
  obtain ⟨n, h1, _, h2⟩ := h
  obtain ⟨n', h1', _, h2'⟩ := h'
  rw [h2, h2', ps_uq h1 h1']
theorem gs_passes_uq {g : gq_G} {tb : Bool} {v v' : Int32} (h : gs_passes g tb v) (h' : gs_passes g tb v') : v = v' := by
  obtain ⟨n, h1, _, h2⟩ := h
  obtain ⟨n', h1', _, h2'⟩ := h'
  rw [ps_uq h1' h1] at h2'
  rcases h2 with h2 | h2
  · rcases h2' with h2' | h2'
    · rw [h2.2, h2'.2]
    · exact absurd h2.1 h2'.1
  · rcases h2' with h2' | h2'
    · exact absurd h2'.1 h2.1
    · rw [h2.2, h2'.2]
/-- which of the two -/
def nu_J (tb : Bool) : Nat := if tb = true then 1 else 0
theorem ct_A_numbering {Γ : zk_G} {d : Nat} {l : Int32} {tb : Bool} {μ : za_M} {g : gq_G} (hg : gq_ok g) (h : ga g μ) (hl : l = if tb = true then 1 else 0) (hd : 6 ≤ d) : zk_Ct zt Γ zm_A_numbering d 0 0 [za_r 0 0, za_i l] μ
    (fun r μ' => r = some (za_r 24 (nu_J tb)) ∧ nu_fin g tb (nu_J tb) μ' ∧ ga g μ' ∧ zq_fr (fun b _ => b ≤ 28) μ μ') (fun _ _ => False) := by
  refine zs_A_numbering (Nat.le_of_ble_eq_true rfl) (by omega) (fun ZZ run => ?_)
  cases tb with
  | false =>
    have hl : l = 0 := hl
    refine run [15] 60 0 _ _ _ _ ?_
    refine ⟨fun _ => ?_, fun q => absurd hl q⟩
    refine run [] 60 15 _ _ _ _ ?_
    refine ⟨d - 1, 0, 0, _, _, by omega, Nat.le_refl _, Nat.le_refl _, ct_N_find (tb := false) hg h.1 h.2.2.2.1.1 h.2.2.2.1.2 (by omega), ?_, fun _ _ h => h.elim⟩
    rintro r μ1 ⟨rfl, hfin, hk, h4, hf⟩
    refine ⟨rfl, rfl, Nat.le_refl _, Nat.le_refl _, rfl, hfin, ?_, zq_up hf (fun b j q => by unfold nu_S at q; omega)⟩
    refine ⟨gq_C_fr h.1 hf (fun b j q z => by unfold nu_S at z; omega), ga_Tc h.2.1 (hf.1 11 0 (by unfold nu_S; decide)) (hf.1 12 0 (by unfold nu_S; decide)) (fun s => hf.2 14 s (fun q => by unfold nu_S at q; omega)), ga_Rc h.2.2.1 (hf.1 20 0 (by unfold nu_S; decide)) (hf.1 21 0 (by unfold nu_S; decide)) (hf.2 22 0 (by unfold nu_S; decide)) (hf.2 23 0 (by unfold nu_S; decide)), ⟨Or.inr ⟨hk, hfin⟩, by rw [h4]; exact h.2.2.2.1.2⟩, ga_Nc' h.2.2.2.2 (hf.1 24 1 (by unfold nu_S; decide)) (fun s hs => hf.1 26 _ (fun q => by unfold nu_S at q; omega))⟩
  | true =>
    have hl : l = 1 := hl
    refine run [15] 60 0 _ _ _ _ ?_
    refine ⟨fun q => absurd (hl.symm.trans q) (by decide), fun _ => ?_⟩
    refine run [] 60 15 _ _ _ _ ?_
    refine ⟨d - 1, 0, 0, _, _, by omega, Nat.le_refl _, Nat.le_refl _, ct_N_find (tb := true) hg h.1 h.2.2.2.2.1 h.2.2.2.2.2 (by omega), ?_, fun _ _ h => h.elim⟩
    rintro r μ1 ⟨rfl, hfin, hk, h4, hf⟩
    refine ⟨rfl, rfl, Nat.le_refl _, Nat.le_refl _, rfl, hfin, ?_, zq_up hf (fun b j q => by unfold nu_S at q; omega)⟩
    refine ⟨gq_C_fr h.1 hf (fun b j q z => by unfold nu_S at z; omega), ga_Tc h.2.1 (hf.1 11 0 (by unfold nu_S; decide)) (hf.1 12 0 (by unfold nu_S; decide)) (fun s => hf.2 14 s (fun q => by unfold nu_S at q; omega)), ga_Rc h.2.2.1 (hf.1 20 0 (by unfold nu_S; decide)) (hf.1 21 0 (by unfold nu_S; decide)) (hf.2 22 0 (by unfold nu_S; decide)) (hf.2 23 0 (by unfold nu_S; decide)), ga_Nc' h.2.2.2.1 (hf.1 24 0 (by unfold nu_S; decide)) (fun s hs => hf.1 26 _ (fun q => by unfold nu_S at q; omega)), ⟨Or.inr ⟨hk, hfin⟩, by rw [h4]; exact h.2.2.2.2.2⟩⟩
set_option maxHeartbeats 4000000 in
theorem ct_A_pass {Γ : zk_G} {d : Nat} {s a l : Int32} {tb : Bool} {μ : za_M} {g : gq_G} (hg : gq_ok g) (h : ga g μ) (hl : l = if tb = true then 1 else 0) (hd : 7 ≤ d) : zk_Ct zt Γ zm_A_pass d 2 12 [za_r 0 0, za_i s, za_i a, za_i l] μ
    (fun r μ' => (∃ k j v, gs_at g s a k j ∧ gs_pass g tb k j v ∧ r = some (za_i v)) ∧ ga g μ' ∧ zq_fr (fun b _ => b ≤ 28) μ μ')
    (fun E μ' => (E = 2 ∧ ¬ ∃ k j, gs_at g s a k j) ∧ μ' = μ) := by
  have hns := hg.1
  refine zX_A_pass (Nat.le_of_ble_eq_true rfl) (by omega) (fun ZZ run => ?_)
  refine run [] 60 0 _ _ _ _ ?_
  refine ⟨d - 1, 1, 6, _, _, by omega, by decide, by decide, ct_A_checkSymbol hg h (by omega), ?_, ?_⟩
  case refine_2 =>
    rintro E μ1 ⟨rfl, hno, hμ1⟩
    exact ⟨by decide, by decide, ⟨rfl, fun ⟨k, j, z, _⟩ => hno ⟨k, z⟩⟩, hμ1⟩
  rintro r μ1 ⟨rfl, ⟨k, hk, hs⟩, hμ1⟩
  have hμ1 := hμ1.symm
  subst hμ1
  refine ⟨d - 1, 1, 6, _, _, by omega, by decide, by decide, ct_A_checkAttribute hg h hs hk (by omega), ?_, ?_⟩
  case refine_2 =>
    rintro E μ1 ⟨rfl, hno, hμ1⟩
    refine ⟨by decide, by decide, ⟨rfl, fun ⟨k', j, z, z2⟩ => hno ⟨j, ?_⟩⟩, hμ1⟩
    rw [show k = k' from (nI_eq (by omega) (by omega)).mp (hs.symm.trans z.2)]
    exact z2
  rintro r μ1 ⟨rfl, ⟨j, hj, ha⟩, hμ1⟩
  have hμ1 := hμ1.symm
  subst hμ1
  have hat : gs_at g s a k j := ⟨⟨hk, hs⟩, hj, ha⟩
  have hj6 := (hg.2.2.1 k hk).1
  refine ⟨d - 1, 0, 0, _, _, by omega, by decide, by decide, ct_A_numbering hg h hl (by omega), ?_, fun _ _ h => h.elim⟩
  rintro r μ1 ⟨rfl, hfin, hga, hfr⟩
  have hck : s.toNatClampNeg = k := zn_c hs (by omega)
  have hca : a.toNatClampNeg = j := zn_c ha (by omega)
  obtain ⟨n, n1, n2, n3, _⟩ := hfin
  refine ⟨zn_i hs (by omega) (by decide), zn_i ha (by omega) (by decide), rfl, Or.inl rfl, by decide, by decide, ⟨k, j, _, hat, ⟨n, n1, n2, rfl⟩, ?_⟩, hga, hfr⟩
  rw [za_ix8, hck, hca, n3 k j (by omega) (by omega)]
theorem ct_A_passes {Γ : zk_G} {d : Nat} {l : Int32} {tb : Bool} {μ : za_M} {g : gq_G} (hg : gq_ok g) (h : ga g μ) (hl : l = if tb = true then 1 else 0) (hd : 7 ≤ d) : zk_Ct zt Γ zm_A_passes d 0 0 [za_r 0 0, za_i l] μ
    (fun r μ' => (∃ v, gs_passes g tb v ∧ r = some (za_i v)) ∧ ga g μ' ∧ zq_fr (fun b _ => b ≤ 28) μ μ') (fun _ _ => False) := by
  refine zs_A_passes (Nat.le_of_ble_eq_true rfl) (by omega) (fun ZZ run => ?_)
  refine run [] 60 0 _ _ _ _ ?_
  refine ⟨d - 1, 0, 0, _, _, by omega, Nat.le_refl _, Nat.le_refl _, ct_A_numbering hg h hl (by omega), ?_, fun _ _ h => h.elim⟩
  rintro r μ1 ⟨rfl, hfin, hga, hfr⟩
  obtain ⟨n, n1, n2, n3, n4, n5, n6⟩ := hfin
  refine ⟨fun q => ⟨rfl, Or.inl rfl, Nat.le_refl _, Nat.le_refl _, ⟨_, ⟨n, n1, n2, Or.inr ⟨fun z => absurd (q.symm.trans (n6.mpr z)) (by decide), rfl⟩⟩, rfl⟩, hga, hfr⟩, fun q => ⟨rfl, Or.inl rfl, Nat.le_refl _, Nat.le_refl _, ⟨_, ⟨n, n1, n2, Or.inl ⟨n6.mp (zn_or01 n5 q), n4⟩⟩, rfl⟩, hga, hfr⟩⟩
