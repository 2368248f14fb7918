/-! the class: a production added -/
set_option maxHeartbeats 8000000 in
theorem ct_G_addProduction {Γ : zk_G} {d h : Nat} {H S1 S2 S3 : Int32} {μ : za_M} {g : gq_G} (hg : gq_ok g) (hC : gq_C g μ) (hn : gq_np g < 16) (hH : H = nI h) (hh : h < gq_ns g) (h1 : gq_pt g S1) (h2 : gq_pt g S2) (h3 : gq_pt g S3) (hd : 5 ≤ d) : zk_Ct zt Γ zm_G_addProduction d 0 0 [za_r 1 0, za_i H, za_i S1, za_i S2, za_i S3] μ (fun r μ' => r = some (za_i (nI (gq_np g))) ∧ gq_C (gq_pr g h S1 S2 S3) μ' ∧ zq_fr (fun b _ => b ≤ 10) μ μ') (fun _ _ => False) := by
  have hns : gq_ns g ≤ 8 := hg.1
  have hcp : (μ.1 1 0 3).toNatClampNeg = gq_np g := zn_c hC.2.1 (by omega)
  have hbp : vp_in (μ.1 1 0 3) 16 := zn_i hC.2.1 hn (by decide)
  have hch : H.toNatClampNeg = h := zn_c hH (by omega)
  have hbh : vp_in H 8 := zn_i hH (by omega) (by decide)
  refine zs_G_addProduction (Nat.le_of_ble_eq_true rfl) (by omega) (fun ZZ run => ?_)
  -- the three parts
  have c86 : ∀ μ0 : za_M, gq_C (gq_addP g h) μ0 → zq_fr (fun b _ => b ≤ 10) μ μ0 → ∀ v, ZZ 86 [some (za_r 1 0), some (za_i H), some (za_i S1), some (za_i S2), some (za_i S3), some (za_i (μ.1 1 0 3)), v] [] μ0 (0, 0) := by
    intro μ0 hC0 hf0 v
    have a0 := gq_addP_ok hg hn hh
    have m0 : gq_m (gq_addP g h) (gq_np g) = 0 := if_pos rfl
    obtain ⟨a1, b1, c1, d1⟩ := gq_ap_ok a0 (p := gq_np g) (Nat.lt_succ_self _) (by omega) (S := S1) h1
    have c1' : gq_np (gq_ap (gq_addP g h) (gq_np g) S1) = gq_np g + 1 := c1
    have b1' : gq_ns (gq_ap (gq_addP g h) (gq_np g) S1) = gq_ns g := b1
    have h2' : gq_pt (gq_ap (gq_addP g h) (gq_np g) S1) S2 := by unfold gq_pt; rw [b1']; exact h2
    obtain ⟨a2, b2, c2, d2⟩ := gq_ap_ok a1 (p := gq_np g) (by omega) (by omega) (S := S2) h2'
    have h3' : gq_pt (gq_ap (gq_ap (gq_addP g h) (gq_np g) S1) (gq_np g) S2) S3 := by unfold gq_pt; rw [b2, b1']; exact h3
    refine run [] 60 86 _ _ _ _ ?_
    refine ⟨d - 1, 0, 0, _, _, by omega, Nat.le_refl _, Nat.le_refl _, ct_G_addPart (p := gq_np g) a0 hC0 hC.2.1 (Nat.lt_succ_self _) (by omega) h1 (by omega), ?_, fun _ _ h => h.elim⟩
    rintro r μ1 ⟨rfl, hC1, hf1⟩
    refine ⟨d - 1, 0, 0, _, _, by omega, Nat.le_refl _, Nat.le_refl _, ct_G_addPart (p := gq_np g) a1 hC1 hC.2.1 (by omega) (by omega) h2' (by omega), ?_, fun _ _ h => h.elim⟩
    rintro r μ2 ⟨rfl, hC2, hf2⟩
    refine ⟨d - 1, 0, 0, _, _, by omega, Nat.le_refl _, Nat.le_refl _, ct_G_addPart (p := gq_np g) a2 hC2 hC.2.1 (by omega) (by omega) h3' (by omega), ?_, fun _ _ h => h.elim⟩
    rintro r μ3 ⟨rfl, hC3, hf3⟩
    exact ⟨rfl, Or.inl rfl, Nat.le_refl _, Nat.le_refl _, by rw [hC.2.1], hC3, zq_tr (zq_tr (zq_tr hf0 hf1) hf2) hf3⟩
  generalize hma : ((za_u (za_u μ.1 1 0 3 (nI (gq_np g + 1))) 4 0 (gq_np g) 0, μ.2) : za_M) = μa
  have fa : zq_fr (fun b _ => b ≤ 10) μ μa := by rw [← hma]; exact zq_u (b := (za_u μ.1 1 0 3 (nI (gq_np g + 1)), μ.2)) (zq_u zq_rf (show 1 ≤ 10 by decide)) (show 4 ≤ 10 by decide)
  have a1 : ∀ i, μa.1 1 0 i = if i = 3 then nI (gq_np g + 1) else μ.1 1 0 i := fun i => by
    rw [← hma]
    dsimp only
    rw [za_u_b (show (1 : Nat) ≠ 4 by decide)]
    by_cases e : i = 3
    · subst e; rw [za_u_same, if_pos rfl]
    · rw [za_u_i e, if_neg e]
  have a4 : ∀ i, μa.1 4 0 i = if i = gq_np g then 0 else μ.1 4 0 i := fun i => by
    rw [← hma]
    dsimp only
    by_cases e : i = gq_np g
    · subst e; rw [za_u_same, if_pos rfl]
    · rw [za_u_i e, if_neg e, za_u_b (show (4 : Nat) ≠ 1 by decide)]
  have ab : ∀ b j, b ≠ 1 → b ≠ 4 → μa.1 b j = μ.1 b j := fun b j n1 n2 => by rw [← hma]; dsimp only; rw [za_u_b n2, za_u_b n1]
  have loop := zn_for (σ := za_M) (N := 32)
    (P := fun k μ1 => ∀ y : Int32, y = nI k → ZZ 27 [some (za_r 1 0), some (za_i H), some (za_i S1), some (za_i S2), some (za_i S3), some (za_i (μ.1 1 0 3)), some (za_i y)] [] μ1 (0, 0))
    (I := fun k μ1 => (∀ i, i < k → μ1.1 8 (gq_np g) i = 0) ∧ zq_fr (fun b j => b = 8 ∧ j = gq_np g) μa μ1)
    (fun μ1 q y hy => by
      have n2 : ∀ s, s < gq_ns g → μ1.1 2 0 s = nI (gq_at g s) ∧ μ1.1 3 0 s = gq_dn g s := fun s hs => by
        rw [q.2.1 2 0 (fun z => absurd z.1 (by decide)), q.2.1 3 0 (fun z => absurd z.1 (by decide)), ab 2 0 (by decide) (by decide), ab 3 0 (by decide) (by decide)]
        exact hC.2.2.1 s hs
      refine run [27, 86] 80 27 _ _ _ _ ?_
      refine ⟨fun _ => ?_, fun w => absurd (by rw [hy]; exact nI_le (Nat.le_refl 32) (by decide)) w⟩
      refine ⟨hbp, zn_i (show (0 : Int32) = nI 0 from rfl) (by decide) (by decide), ?_⟩
      suffices post : ∀ κ1 : za_M, (za_u μ1.1 6 (μ.1 1 0 3).toNatClampNeg (0 : Int32).toNatClampNeg H, μ1.2) = κ1 → (∃ (d' mc' ms' : Nat) (post : Option za_V → za_M → Prop) (px : Nat → za_M → Prop), d' < d ∧ 0 + mc' ≤ 0 ∧ 0 + ms' ≤ 0 ∧ zk_Ct zt Γ zm_G_up d' mc' ms' [za_r 1 0, za_i H] κ1 post px ∧ (∀ r μ2, post r μ2 → ∃ v : Int32, r = some (za_i v) ∧ vp_in (μ.1 1 0 3) 16 ∧ vp_in H 8 ∧ vp_in (μ.1 1 0 3) 16 ∧ ZZ 86 [some (za_r 1 0), some (za_i H), some (za_i S1), some (za_i S2), some (za_i S3), some (za_i (μ.1 1 0 3)), some (za_i y)] [] (za_u (za_u μ2.1 9 0 (μ.1 1 0 3).toNatClampNeg v) 10 0 (μ.1 1 0 3).toNatClampNeg (za_u μ2.1 9 0 (μ.1 1 0 3).toNatClampNeg v 3 0 H.toNatClampNeg), μ2.2) (0 + mc', 0 + ms')) ∧ (∀ E μ2, px E μ2 → False)) from ?_
      · obtain ⟨d', mc', ms', po, px, e1, e2, e3, e4, e5, e6⟩ := post _ rfl
        refine ⟨d', mc', ms', po, px, e1, e2, e3, e4, fun r μ2 hr => ?_, fun E μ2 hE => (e6 E μ2 hE).elim⟩
        obtain ⟨v, rfl, e7, e8, e9, e10⟩ := e5 r μ2 hr
        exact ⟨e7, e8, e9, e10⟩
      intro κ1 hk1
      have k6 : ∀ q o, κ1.1 6 q o = if q = gq_np g ∧ o = 0 then H else μ1.1 6 q o := fun q o => by
        rw [← hk1, hcp, zn_c0]
        dsimp only
        unfold za_u
        by_cases e : q = gq_np g ∧ o = 0
        · rw [if_pos e, if_pos ⟨rfl, e.1, e.2⟩]
        · rw [if_neg e, if_neg (fun z => e z.2)]
      have kb : ∀ b j, b ≠ 6 → κ1.1 b j = μ1.1 b j := fun b j n1 => by rw [← hk1]; dsimp only; rw [za_u_b n1]
      have kf : zq_fr (fun b _ => b ≤ 10) μ κ1 := by rw [← hk1]; exact zq_u (zq_tr fa (zq_up q.2 (fun b j z => by omega))) (show 6 ≤ 10 by decide)
      refine ⟨d - 1, 0, 0, _, _, by omega, Nat.le_refl _, Nat.le_refl _, ct_G_up' (g := g) hg (by rw [kb 2 0 (by decide), kb 3 0 (by decide)]; exact n2) hH hh (by omega), ?_, fun _ _ h => h.elim⟩
      rintro r μ2 ⟨⟨v, rfl, hv⟩, hμ2⟩
      have hμ2 := hμ2.symm
      subst hμ2
      refine ⟨v, rfl, hbp, hbh, hbp, ?_⟩
      rw [hcp, hch, za_u_b (show (3 : Nat) ≠ 9 by decide), kb 3 0 (by decide), (n2 h hh).2]
      refine c86 _ ?_ (zq_u (b := (za_u κ1.1 9 0 (gq_np g) v, κ1.2)) (zq_u kf (show 9 ≤ 10 by decide)) (show 10 ≤ 10 by decide)) _
      generalize hm2 : ((za_u (za_u κ1.1 9 0 (gq_np g) v) 10 0 (gq_np g) (gq_dn g h), κ1.2) : za_M) = μ3
      have m9 : ∀ q, μ3.1 9 0 q = if q = gq_np g then v else κ1.1 9 0 q := fun q => by
        rw [← hm2]
        dsimp only
        rw [za_u_b (show (9 : Nat) ≠ 10 by decide)]
        by_cases e : q = gq_np g
        · subst e; rw [za_u_same, if_pos rfl]
        · rw [za_u_i e, if_neg e]
      have m10 : ∀ q, μ3.1 10 0 q = if q = gq_np g then gq_dn g h else κ1.1 10 0 q := fun q => by
        rw [← hm2]
        dsimp only
        by_cases e : q = gq_np g
        · subst e; rw [za_u_same, if_pos rfl]
        · rw [za_u_i e, if_neg e, za_u_b (show (10 : Nat) ≠ 9 by decide)]
      have mb : ∀ b j, b ≠ 9 → b ≠ 10 → μ3.1 b j = κ1.1 b j := fun b j n1 n2 => by rw [← hm2]; dsimp only; rw [za_u_b n2, za_u_b n1]
      have q8 : ∀ b j, ¬ (b = 8 ∧ j = gq_np g) → μ1.1 b j = μa.1 b j := q.2.1
      refine ⟨?_, ?_, fun s hs => ?_, fun p hp => ?_⟩
      · rw [mb 1 0 (by decide) (by decide), kb 1 0 (by decide), q8 1 0 (fun z => absurd z.1 (by decide)), a1]
        exact hC.1
      · rw [mb 1 0 (by decide) (by decide), kb 1 0 (by decide), q8 1 0 (fun z => absurd z.1 (by decide)), a1]
        rfl
      · rw [mb 2 0 (by decide) (by decide), mb 3 0 (by decide) (by decide), kb 2 0 (by decide), kb 3 0 (by decide)]
        exact n2 s hs
      · have hp : p < gq_np g + 1 := hp
        rw [mb 4 0 (by decide) (by decide), mb 6 p (by decide) (by decide), mb 8 p (by decide) (by decide), kb 4 0 (by decide), kb 8 p (by decide), q8 4 0 (fun z => absurd z.1 (by decide)), a4, m9, m10]
        by_cases e : p = gq_np g
        · subst e
          refine ⟨?_, fun o ho => ?_, fun x hx => ?_, fun x hx => ?_, fun x hx => ?_⟩
          · rw [if_pos rfl]
            show (0 : Int32) = nI (if gq_np g = gq_np g then 0 else gq_m g (gq_np g))
            rw [if_pos rfl]
            rfl
          · have ho : o ≤ (if gq_np g = gq_np g then 0 else gq_m g (gq_np g)) := ho
            rw [if_pos rfl] at ho
            rw [k6, if_pos ⟨rfl, by omega⟩, hH]
            show nI h = nI (if gq_np g = gq_np g then h else _)
            rw [if_pos rfl]
          · rw [q.1 x hx]
            show (0 : Int32) = (if gq_np g = gq_np g then 0 else _)
            rw [if_pos rfl]
          · rw [if_pos rfl, hv x]
            have hth : gq_th (gq_addP g h) (gq_np g) x ↔ (x < 8 ∧ x % 8 < gq_at g h) := by
              show (x / 8 ≤ (if gq_np g = gq_np g then 0 else gq_m g (gq_np g)) ∧ x % 8 < gq_at g (if gq_np g = gq_np g then h else _)) ↔ _
              rw [if_pos rfl, if_pos rfl]
              omega
            unfold gq_df
            rw [hth]
            have hat := (hg.2.2.1 h hh).1
            show _ ↔ _ ∧ (bt (gq_dn g (if gq_np g = gq_np g then h else _)) (x % 8) = true ↔ 7 < x)
            rw [if_pos rfl]
            constructor
            · rintro ⟨w1, w2⟩
              rw [show x % 8 = x by omega, w2]
              exact ⟨⟨by omega, w1⟩, fun z => absurd z (by decide), fun z => by omega⟩
            · rintro ⟨⟨w1, w2⟩, w3⟩
              rw [show x % 8 = x by omega] at w2 w3
              refine ⟨w2, ?_⟩
              cases hb : bt (gq_dn g h) x with
              | false => rfl
              | true => have := w3.mp hb; omega
          · rw [if_pos rfl]
            have hth : gq_th (gq_addP g h) (gq_np g) x ↔ (x < 8 ∧ x % 8 < gq_at g h) := by
              show (x / 8 ≤ (if gq_np g = gq_np g then 0 else gq_m g (gq_np g)) ∧ x % 8 < gq_at g (if gq_np g = gq_np g then h else _)) ↔ _
              rw [if_pos rfl, if_pos rfl]
              omega
            unfold gq_gv
            rw [hth]
            have hat := (hg.2.2.1 h hh)
            show _ ↔ _ ∧ ¬ (bt (gq_dn g (if gq_np g = gq_np g then h else _)) (x % 8) = true ↔ 7 < x)
            rw [if_pos rfl]
            constructor
            · intro w
              have := hat.2 x w
              rw [show x % 8 = x by omega, w]
              exact ⟨⟨by omega, this⟩, fun z => by have := z.mp rfl; omega⟩
            · rintro ⟨⟨w1, w2⟩, w3⟩
              rw [show x % 8 = x by omega] at w2 w3
              cases hb : bt (gq_dn g h) x with
              | true => rfl
              | false => rw [hb] at w3; exact absurd ⟨fun z => absurd z (by decide), fun z => by omega⟩ w3
        · have hp' : p < gq_np g := by omega
          obtain ⟨d1, d2, d3, d4, d5⟩ := hC.2.2.2 p hp'
          refine ⟨?_, fun o ho => ?_, fun x hx => ?_, fun x hx => ?_, fun x hx => ?_⟩
          · rw [if_neg e]
            show _ = nI (if p = gq_np g then 0 else gq_m g p)
            rw [if_neg e]; exact d1
          · have ho : o ≤ (if p = gq_np g then 0 else gq_m g p) := ho
            rw [if_neg e] at ho
            rw [k6, if_neg (fun z => e z.1), q8 6 p (fun z => absurd z.1 (by decide)), ab 6 p (by decide) (by decide)]
            show _ = nI (if p = gq_np g then h else gq_sy g p o)
            rw [if_neg e]; exact d2 o ho
          · rw [q8 8 p (fun z => e z.2), ab 8 p (by decide) (by decide)]
            show _ = (if p = gq_np g then 0 else gq_nd g p x)
            rw [if_neg e]; exact d3 x hx
          · rw [if_neg e, kb 9 0 (by decide), q8 9 0 (fun z => absurd z.1 (by decide)), ab 9 0 (by decide) (by decide), (gq_addP_df h hp' x).1]
            exact d4 x hx
          · rw [if_neg e, kb 10 0 (by decide), q8 10 0 (fun z => absurd z.1 (by decide)), ab 10 0 (by decide) (by decide), (gq_addP_df h hp' x).2]
            exact d5 x hx)
    (fun k μ1 hk q ih y hy => by
      have hck : y.toNatClampNeg = k := zn_c hy (by omega)
      refine run [27, 86] 60 27 _ _ _ _ ?_
      refine ⟨fun w => absurd w (zn_ge hy rfl hk (by decide)), fun _ => ⟨hbp, zn_i hy hk (by decide), ?_⟩⟩
      refine ih _ ⟨fun i hi => ?_, zq_u q.2 ⟨rfl, hcp⟩⟩ _ (zn_s hy)
      show za_u μ1.1 8 (μ.1 1 0 3).toNatClampNeg y.toNatClampNeg 0 8 (gq_np g) i = 0
      rw [hck, hcp]
      by_cases e : i = k
      · subst e; rw [za_u_same]
      · rw [za_u_i e]; exact q.1 i (by omega))
  refine run [27] 60 0 _ _ _ _ ?_
  refine ⟨hbp, ?_⟩
  have fin := loop 0 μa (Nat.zero_le _) ⟨fun i hi => absurd hi (Nat.not_lt_zero i), zq_rf⟩ 0 rfl
  rw [← hma, ← nI_1, ← hC.2.1] at fin
  have e4 : (za_u (za_u μ.1 1 0 3 (μ.1 1 0 3 + 1)) 4 0 (gq_np g) 0) = za_u (za_u μ.1 1 0 3 (μ.1 1 0 3 + 1)) 4 0 (μ.1 1 0 3).toNatClampNeg 0 := by rw [hcp]
  rw [e4] at fin
  exact fin
