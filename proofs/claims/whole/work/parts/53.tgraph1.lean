/-! the class: TreeGraphs, its table -/
def tg_K (μ : za_M) (s : Nat) : Nat := (μ.1 12 0 s).toNatClampNeg
def tg_g (w : Int64) : gr_T := fun a b => decide (a < 8) && (decide (b < 8) && bl w (8 * a + b))
def tg_T (μ : za_M) (s i : Nat) : gr_T := tg_g (μ.2 14 s i)
def tg_C (μ : za_M) : Prop := μ.1 11 0 2 = 1
def tg_ok (μ : za_M) : Prop := (∀ s, s < 8 → μ.1 12 0 s = nI (tg_K μ s) ∧ tg_K μ s ≤ 10) ∧ (μ.1 11 0 2 = 0 ∨ μ.1 11 0 2 = 1) ∧ (μ.1 11 0 1 = 0 ∨ μ.1 11 0 1 = 1)
def tg_so (g : gq_G) (μ : za_M) : Prop := tb_so g (tg_K μ) (tg_T μ) (tg_C μ)
def tg_le (μ μ' : za_M) : Prop := tb_le (tg_K μ) (tg_T μ) (tg_C μ) (tg_K μ') (tg_T μ') (tg_C μ')
def tg_tr (g : gq_G) (p : Nat) (idx : Nat → Nat) (μ : za_M) : Prop := tb_tr g p idx (tg_K μ) (tg_T μ) (tg_C μ)
def tg_I (g : gq_G) (μ : za_M) : Prop := tg_ok μ ∧ tg_so g μ ∧ (μ.1 11 0 1 = 1 → gr_G g)
theorem tg_g_inj {w w' : Int64} : tg_g w = tg_g w' ↔ w = w' := by
  refine ⟨fun e => bl_ext fun j hj => ?_, fun e => by rw [e]⟩
  have := congrFun (congrFun e (j / 8)) (j % 8)
  unfold tg_g at this
  rw [decide_eq_true (show j / 8 < 8 by omega), decide_eq_true (show j % 8 < 8 by omega), Bool.true_and, Bool.true_and, show 8 * (j / 8) + j % 8 = j by omega] at this
  exact this
theorem tg_rk {g : gq_G} (hg : gq_ok g) {p : Nat} (hp : p < gq_np g) {c : Nat → gr_T} {r : Nat → Int32} (hr : ∀ x y, x < 32 → (bt (r x) y = true ↔ gr_P g p c x y)) : gr_is g p c (tg_g (bd_rk r 0 6)) := by
  intro a b
  unfold tg_g
  rw [Bool.and_eq_true, Bool.and_eq_true, decide_eq_true_eq, decide_eq_true_eq]
  constructor
  · rintro ⟨h1, h2, h3⟩
    rw [cl_rk (by decide) h1 h2, Bool.and_eq_true, show 8 * 0 + a = a by omega, show 8 * 0 + b = b by omega] at h3
    exact ⟨h1, h2, (hr a b (by omega)).mp h3.2⟩
  · rintro ⟨h1, h2, h3⟩
    refine ⟨h1, h2, ?_⟩
    rw [cl_rk (by decide) h1 h2, Bool.and_eq_true, decide_eq_true_eq, show 8 * 0 + a = a by omega, show 8 * 0 + b = b by omega]
    exact ⟨(gr_b6 hg hp h1 h2 h3).1, (hr a b (by omega)).mpr h3⟩
def tk_S (b j : Nat) : Prop := ((b = 11 ∨ b = 12) ∧ j = 0) ∨ b = 14
set_option maxHeartbeats 8000000 in
theorem ct_T_keep {Γ : zk_G} {d p J : Nat} {x : Int32} {idx : Nat → Nat} {μ : za_M} {g : gq_G} (hg : gq_ok g) (hI : tg_I g μ) (h1 : μ.1 11 0 1 = 0) (hx : x = nI (gq_sy g p 0)) (hp : p < gq_np g) (hin : tb_in g p idx (tg_K μ)) (hr : ∀ x y, x < 32 → (bt (μ.1 19 J x) y = true ↔ gr_P g p (tb_c g p idx (tg_T μ)) x y)) (hc01 : μ.1 18 J 1 = 0 ∨ μ.1 18 J 1 = 1) (hci : μ.1 18 J 1 = 1 ↔ gr_ci g p (tb_c g p idx (tg_T μ))) (hd : 2 ≤ d) : zk_Ct zt Γ zm_T_keep d 0 0 [za_r 11 0, za_i x, za_r 18 J] μ
    (fun r μ' => r = none ∧ tg_I g μ' ∧ tg_le μ μ' ∧ (μ'.1 11 0 1 = 0 → tg_tr g p idx μ') ∧ zq_fr tk_S μ μ' ∧ μ'.1 11 0 0 = μ.1 11 0 0) (fun _ _ => False) := by
  obtain ⟨⟨k1, k2, k3⟩, hso, hGG⟩ := hI
  have hs8 : gq_sy g p 0 < 8 := gq_sy8 hg hp (Nat.zero_le _)
  have hcx : x.toNatClampNeg = gq_sy g p 0 := zn_c hx (by omega)
  have hb : vp_in x 8 := zn_i hx hs8 (by decide)
  have hk10 := (k1 _ hs8).2
  have hG := tg_rk hg hp hr
  refine zs_T_keep (Nat.le_of_ble_eq_true rfl) (by omega) (fun ZZ run => ?_)
  have hc' : μ.1 11 0 2 ||| μ.1 18 J 1 = 0 ∨ μ.1 11 0 2 ||| μ.1 18 J 1 = 1 := by
    rcases hc01 with e | e
    · rw [e, zn_o0 k2]; exact k2
    · rw [e, zn_o1 k2]; exact Or.inr rfl
  have hC1 : μ.1 11 0 2 ||| μ.1 18 J 1 = 1 ↔ (tg_C μ ∨ gr_ci g p (tb_c g p idx (tg_T μ))) := by
    rw [← hci]
    unfold tg_C
    rcases hc01 with e | e
    · rw [e, zn_o0 k2]
      exact ⟨Or.inl, fun q => q.elim id (fun q => absurd q (by decide))⟩
    · rw [e, zn_o1 k2]
      exact ⟨fun _ => Or.inr rfl, fun _ => rfl⟩
  generalize hμ1 : ((za_u μ.1 11 0 2 (μ.1 11 0 2 ||| μ.1 18 J 1), μ.2) : za_M) = μ1
  have f1 : zq_fr tk_S μ μ1 := by rw [← hμ1]; exact zq_u zq_rf (Or.inl ⟨Or.inl rfl, rfl⟩)
  have a12 : μ1.1 12 0 = μ.1 12 0 := by rw [← hμ1]; dsimp only; rw [za_u_b (by decide)]
  have a2 : μ1.1 11 0 2 = μ.1 11 0 2 ||| μ.1 18 J 1 := by rw [← hμ1]; dsimp only; rw [za_u_same]
  have a1 : μ1.1 11 0 1 = 0 := by rw [← hμ1]; dsimp only; rw [za_u_i (by decide), h1]
  have a0 : μ1.1 11 0 0 = μ.1 11 0 0 := by rw [← hμ1]; dsimp only; rw [za_u_i (by decide)]
  have a14 : ∀ s, μ1.2 14 s = μ.2 14 s := fun s => by rw [← hμ1]
  have a19 : μ1.1 19 J = μ.1 19 J := by rw [← hμ1]; dsimp only; rw [za_u_b (by decide)]
  have hK1 : tg_K μ1 = tg_K μ := by funext s; unfold tg_K; rw [a12]
  have hT1 : tg_T μ1 = tg_T μ := by funext s i; unfold tg_T; rw [a14]
  have hCC : tg_C μ1 ↔ (tg_C μ ∨ gr_ci g p (tb_c g p idx (tg_T μ))) := by
    rw [← hC1]
    unfold tg_C
    rw [a2]
  have ek : μ1.1 12 0 x.toNatClampNeg = nI (tg_K μ (gq_sy g p 0)) := by rw [hcx, a12]; exact (k1 _ hs8).1
  have loop := zn_for (σ := Unit) (N := tg_K μ (gq_sy g p 0))
    (P := fun k _ => ∀ y : Int32, y = nI k → ZZ 22 [some (za_r 11 0), some (za_i x), some (za_r 18 J), some (za_l (bd_rk (μ.1 19 J) 0 6)), none, some (za_i y)] [] μ1 (0, 0))
    (I := fun k _ => ∀ j, j < k → ¬ μ.2 14 (gq_sy g p 0) j = bd_rk (μ.1 19 J) 0 6)
    (fun _ h y hy => by
      refine run [22] 60 22 _ _ _ _ ?_
      refine ⟨hb, fun _ => ⟨hb, fun hq => ?_, fun hq => ?_⟩, fun q => absurd (by rw [ek, hy]; exact Int32.le_refl _) q⟩
      · -- there is room
        have hlt : tg_K μ (gq_sy g p 0) < 10 := Classical.byContradiction fun z => by
          rw [ek, show tg_K μ (gq_sy g p 0) = 10 by omega] at hq
          exact absurd hq (by decide)
        refine ⟨hb, hb, zn_i ek hlt (by decide), hb, hb, rfl, rfl, Nat.le_refl _, Nat.le_refl _, rfl, ?_⟩
        suffices post : ∀ μ2 : za_M, (za_u μ1.1 12 0 x.toNatClampNeg (μ1.1 12 0 x.toNatClampNeg + 1), za_u μ1.2 14 x.toNatClampNeg (μ1.1 12 0 x.toNatClampNeg).toNatClampNeg (bd_rk (μ.1 19 J) 0 6)) = μ2 → tg_I g μ2 ∧ tg_le μ μ2 ∧ (μ2.1 11 0 1 = 0 → tg_tr g p idx μ2) ∧ zq_fr tk_S μ μ2 ∧ μ2.1 11 0 0 = μ.1 11 0 0 from post _ rfl
        intro μ2 hμ2
        have e1 : μ1.1 12 0 x.toNatClampNeg + 1 = nI (tg_K μ (gq_sy g p 0) + 1) := by rw [ek]; exact nI_1 _
        rw [e1, zn_c ek (by omega), hcx] at hμ2
        have n12 : ∀ s, μ2.1 12 0 s = if s = gq_sy g p 0 then nI (tg_K μ (gq_sy g p 0) + 1) else μ.1 12 0 s := fun s => by
          rw [← hμ2]
          dsimp only
          by_cases e : s = gq_sy g p 0
          · rw [if_pos e, e, za_u_same]
          · rw [if_neg e, za_u_i e, a12]
        have n14 : ∀ s i, μ2.2 14 s i = if s = gq_sy g p 0 ∧ i = tg_K μ (gq_sy g p 0) then bd_rk (μ.1 19 J) 0 6 else μ.2 14 s i := fun s i => by
          rw [← hμ2]
          dsimp only
          by_cases e : s = gq_sy g p 0
          · subst e
            by_cases e2 : i = tg_K μ (gq_sy g p 0)
            · rw [if_pos ⟨rfl, e2⟩, e2, za_u_same]
            · rw [if_neg (fun z => e2 z.2), za_u_i e2, a14]
          · rw [if_neg (fun z => e z.1), za_u_ne (fun z => e z.2), a14]
        have n11 : μ2.1 11 0 = μ1.1 11 0 := by rw [← hμ2]; dsimp only; rw [za_u_b (by decide)]
        have nK : ∀ s, s < 8 → tg_K μ2 s = if s = gq_sy g p 0 then tg_K μ (gq_sy g p 0) + 1 else tg_K μ s := fun s hs => by
          unfold tg_K
          rw [n12]
          by_cases e : s = gq_sy g p 0
          · rw [if_pos e, if_pos e, zn_cl (by omega)]; rfl
          · rw [if_neg e, if_neg e]
        have nT : ∀ s i, s < 8 → i < tg_K μ s → tg_T μ2 s i = tg_T μ s i := fun s i hs hi => by
          unfold tg_T
          rw [n14, if_neg]
          rintro ⟨z1, z2⟩
          subst z1
          omega
        have hC2 : tg_C μ2 ↔ (tg_C μ ∨ gr_ci g p (tb_c g p idx (tg_T μ))) := by
          rw [← hCC]
          unfold tg_C
          rw [n11]
        have key := tb_tk (K' := tg_K μ2) (T' := tg_T μ2) hg hp hso hin hG hC2 (by
          refine ⟨fun s hs e => by rw [nK s hs, if_neg e], nT, Or.inr ⟨by rw [nK _ hs8, if_pos rfl], ?_, fun j hj e => ?_⟩⟩
          · unfold tg_T
            rw [n14, if_pos ⟨rfl, rfl⟩]
          · unfold tg_T at e
            exact h j hj (tg_g_inj.mp e))
        refine ⟨⟨⟨fun s hs => ?_, ?_, ?_⟩, key.1, fun q => ?_⟩, key.2.1, fun _ => key.2.2, ?_, ?_⟩
        · rw [nK s hs, n12]
          by_cases e : s = gq_sy g p 0
          · rw [if_pos e, if_pos e]
            exact ⟨rfl, by omega⟩
          · rw [if_neg e, if_neg e]
            exact k1 s hs
        · rw [n11, a2]; exact hc'
        · rw [n11, a1]; exact Or.inl rfl
        · rw [n11, a1] at q; exact absurd q (by decide)
        · rw [← hμ2]
          exact zq_uL (zq_u f1 (Or.inl ⟨Or.inr rfl, rfl⟩)) (Or.inr rfl)
        · rw [n11, a0]
      · -- too many
        have h10 : tg_K μ (gq_sy g p 0) = 10 := Classical.byContradiction fun z => hq (zn_lt2 ek (show (10 : Int32) = nI 10 from rfl) (by omega) (by decide))
        refine ⟨Or.inr rfl, rfl, rfl, Nat.le_refl _, Nat.le_refl _, rfl, ?_⟩
        generalize hμ2 : ((za_u μ1.1 11 0 1 1, μ1.2) : za_M) = μ2
        have n12 : μ2.1 12 0 = μ.1 12 0 := by rw [← hμ2]; dsimp only; rw [za_u_b (by decide), a12]
        have n14 : ∀ s, μ2.2 14 s = μ.2 14 s := fun s => by rw [← hμ2]; dsimp only; rw [a14]
        have n2 : μ2.1 11 0 2 = μ.1 11 0 2 ||| μ.1 18 J 1 := by rw [← hμ2]; dsimp only; rw [za_u_i (by decide), a2]
        have n1 : μ2.1 11 0 1 = 1 := by rw [← hμ2]; dsimp only; rw [za_u_same]
        have n0 : μ2.1 11 0 0 = μ.1 11 0 0 := by rw [← hμ2]; dsimp only; rw [za_u_i (by decide), a0]
        have hK2 : tg_K μ2 = tg_K μ := by funext s; unfold tg_K; rw [n12]
        have hT2 : tg_T μ2 = tg_T μ := by funext s i; unfold tg_T; rw [n14]
        have hL : gr_L g (gq_sy g p 0) (tg_g (bd_rk (μ.1 19 J) 0 6)) := gr_Lcl g p hp _ _ (fun o a b => hso.1 _ _ (gq_sy8 hg hp b) (hin o a b)) hG
        refine ⟨⟨⟨fun s hs => ?_, ?_, ?_⟩, ?_, fun _ => ⟨gq_sy g p 0, hs8, fun i => if i < 10 then tg_T μ (gq_sy g p 0) i else tg_g (bd_rk (μ.1 19 J) 0 6), fun i j hi hj e => ?_, fun i hi => ?_⟩⟩, ?_, fun q => absurd (n1.symm.trans q) (by decide), ?_, n0⟩
        · rw [hK2, n12]; exact k1 s hs
        · rw [n2]; exact hc'
        · rw [n1]; exact Or.inr rfl
        · unfold tg_so
          rw [hK2, hT2]
          refine ⟨hso.1, hso.2.1, fun q => ?_⟩
          unfold tg_C at q
          rw [n2, hC1] at q
          rcases q with q | q
          · exact hso.2.2 q
          · exact ⟨p, hp, _, fun o a b => hso.1 _ _ (gq_sy8 hg hp b) (hin o a b), q⟩
        · dsimp only at e
          by_cases ei : i < 10
          · rw [if_pos ei] at e
            by_cases ej : j < 10
            · rw [if_pos ej] at e
              exact hso.2.1 _ i j hs8 (by omega) (by omega) e
            · rw [if_neg ej] at e
              exact absurd (tg_g_inj.mp e) (h i (by omega))
          · rw [if_neg ei] at e
            by_cases ej : j < 10
            · rw [if_pos ej] at e
              exact absurd (tg_g_inj.mp e.symm) (h j (by omega))
            · omega
        · dsimp only
          split
          · exact hso.1 _ i hs8 (by omega)
          · exact hL
        · unfold tg_le
          rw [hK2, hT2]
          refine ⟨fun s _ => ⟨Nat.le_refl _, fun _ _ => rfl⟩, fun q => ?_⟩
          unfold tg_C
          rw [n2, hC1]
          exact Or.inl q
        · rw [← hμ2]
          exact zq_u f1 (Or.inl ⟨Or.inl rfl, rfl⟩))
    (fun k _ hk h ih y hy => by
      have hcy : y.toNatClampNeg = k := zn_c hy (by omega)
      refine run [22] 60 22 _ _ _ _ ?_
      refine ⟨hb, fun q => absurd q (zn_ge hy ek hk (by omega)), fun _ => ⟨hb, zn_i hy (by omega) (by decide), fun hz => ?_, fun hz => ?_⟩⟩
      · rw [za_ix0, hcx, hcy, a14, lg_cmp_eq] at hz
        refine ih () (fun j hj => ?_) _ (zn_s hy)
        by_cases e : j = k
        · subst e; exact hz
        · exact h j (by omega)
      · rw [za_ix0, hcx, hcy, a14, lg_cmp_eq] at hz
        have key := tb_tk (K' := tg_K μ1) (T' := tg_T μ1) hg hp hso hin hG hCC (by
          rw [hK1, hT1]
          refine ⟨fun _ _ _ => rfl, fun _ _ _ _ => rfl, Or.inl ⟨rfl, k, hk, ?_⟩⟩
          unfold tg_T
          rw [hz])
        refine ⟨rfl, rfl, Nat.le_refl _, Nat.le_refl _, rfl, ⟨⟨fun s hs => ?_, ?_, ?_⟩, key.1, fun q => ?_⟩, key.2.1, fun _ => key.2.2, f1, a0⟩
        · rw [hK1, a12]; exact k1 s hs
        · rw [a2]; exact hc'
        · rw [a1]; exact Or.inl rfl
        · rw [a1] at q; exact absurd q (by decide))
  refine run [22] 60 0 _ _ _ _ ?_
  refine ⟨hc', ?_⟩
  refine ⟨d - 1, 0, 0, _, _, by omega, Nat.le_refl _, Nat.le_refl _, ct_B_relationAt' (o := 0) rfl (by omega) (by decide), ?_, fun _ _ h => h.elim⟩
  rintro r μ5 ⟨rfl, rfl⟩
  have l0 := loop 0 () (Nat.zero_le _) (fun j hj => absurd hj (Nat.not_lt_zero j)) 0 rfl
  rw [← a19, ← hμ1] at l0
  exact l0
