/-! the reference: work -/
def mt_d (μ : za_M) (i : Nat) : Nat := (μ.1 37 0 i).toNatClampNeg
def mt_dok (μ : za_M) : Prop := ∀ i, i < 48 → μ.1 37 0 i = nI (mt_d μ i) ∧ mt_d μ i ≤ 11
/-- indices of a production's three occurrences -/
def tb_ix (n : Nat → Nat) (idx : Nat → Nat) : Prop := idx 1 < n 1 ∧ idx 2 < n 2 ∧ idx 3 < n 3
theorem tb_ixin {g : gq_G} {p : Nat} {K : Nat → Nat} {idx : Nat → Nat} (hm : gq_m g p ≤ 3) (h : tb_ix (fun o => mt_n g p o K) idx) : tb_in g p idx K := by
  intro o a b
  have key : idx o < mt_n g p o K := by
    obtain ⟨h1, h2, h3⟩ := h
    rcases (show o = 1 ∨ o = 2 ∨ o = 3 by omega) with rfl | rfl | rfl
    · exact h1
    · exact h2
    · exact h3
  unfold mt_n at key
  rw [if_pos b] at key
  exact key
theorem tb_inix {g : gq_G} {p : Nat} {K : Nat → Nat} {T : Nat → Nat → gr_T} {C : Prop} {idx : Nat → Nat} (h : tb_in g p idx K) (ht : ∀ idx, tb_ix (fun o => mt_n g p o K) idx → tb_tr g p idx K T C) : tb_tr g p idx K T C := by
  have key : ∀ o, 1 ≤ o → (if o ≤ gq_m g p then idx o else 0) < mt_n g p o K := by
    intro o a
    unfold mt_n
    by_cases b : o ≤ gq_m g p
    · rw [if_pos b, if_pos b]; exact h o a b
    · rw [if_neg b, if_neg b]; exact Nat.one_pos
  have hc : ∀ o, 1 ≤ o → o ≤ gq_m g p → tb_c g p (fun o => if o ≤ gq_m g p then idx o else 0) T o = tb_c g p idx T o := by
    intro o _ b
    unfold tb_c
    dsimp only
    rw [if_pos b]
  obtain ⟨⟨j, h1, h2⟩, h3⟩ := ht (fun o => if o ≤ gq_m g p then idx o else 0) ⟨key 1 (by decide), key 2 (by decide), key 3 (by decide)⟩
  exact ⟨⟨j, h1, gr_isc hc h2⟩, fun q => h3 ((gr_cic hc).mpr q)⟩
/-- what holds while a production is worked on: B tells which indices were gone through -/
def wk_I (g : gq_G) (p : Nat) (μ : za_M) (n : Nat → Nat) (B : (Nat → Nat) → Prop) (μ1 : za_M) (v : Int32) : Prop :=
  mt_ok μ1 ∧ tb_so g (mt_K μ1) (mt_T μ1) (mt_C μ1) ∧ tb_le (mt_K μ) (mt_T μ) (mt_C μ) (mt_K μ1) (mt_T μ1) (mt_C μ1) ∧ (μ1.1 30 0 8 = 1 → gr_G g) ∧ (μ1.1 30 0 8 = 0 → ∀ s, s < 8 → mt_K μ1 s ≤ 10) ∧ μ1.1 37 0 = μ.1 37 0 ∧ mp_b μ μ1 ∧
  ((v = 0 ∨ v = 1) ∧ (v = 0 → μ1 = μ) ∧ (v = 1 → ∃ idx, tb_ix n idx ∧ (mt_d μ (3 * p) ≤ idx 1 ∨ mt_d μ (3 * p + 1) ≤ idx 2 ∨ mt_d μ (3 * p + 2) ≤ idx 3))) ∧
  (μ1.1 30 0 8 = 0 → ∀ idx, tb_ix n idx → B idx → tb_tr g p idx (mt_K μ1) (mt_T μ1) (mt_C μ1))
theorem wk_Ib {g : gq_G} {p : Nat} {μ μ1 : za_M} {n : Nat → Nat} {B B' : (Nat → Nat) → Prop} {v : Int32} (h : wk_I g p μ n B μ1 v) (hB : μ1.1 30 0 8 = 0 → ∀ idx, tb_ix n idx → B' idx → B idx) : wk_I g p μ n B' μ1 v := by
  obtain ⟨a, b, c, d, e, f, f2, i, j⟩ := h
  exact ⟨a, b, c, d, e, f, f2, i, fun q idx h1 h2 => j q idx h1 (hB q idx h1 h2)⟩
theorem zn_3 (p : Nat) : (3 : Int32) * nI p = nI (3 * p) := pk_mul 3 p
set_option maxHeartbeats 16000000 in
theorem ct_M_work {Γ : zk_G} {d p : Nat} {x : Int32} {μ : za_M} {g : gq_G} (hg : gq_ok g) (hM : gq_M g μ) (hok : mt_ok μ) (hso : tb_so g (mt_K μ) (mt_T μ) (mt_C μ)) (hdk : mt_dok μ) (h10 : ∀ s, s < 8 → mt_K μ s ≤ 10) (h8 : μ.1 30 0 8 = 0) (hx : x = nI p) (hp : p < gq_np g)
    (hdone : ∀ idx, idx 1 < mt_d μ (3 * p) → idx 2 < mt_d μ (3 * p + 1) → idx 3 < mt_d μ (3 * p + 2) → tb_ix (fun o => mt_n g p o (mt_K μ)) idx → tb_tr g p idx (mt_K μ) (mt_T μ) (mt_C μ)) (hd : 4 ≤ d) : zk_Ct zt Γ zm_M_work d 0 0 [za_r 30 0, za_i x] μ
    (fun r μ' => ∃ (v : Int32) (μ1 : za_M), r = some (za_i v) ∧ wk_I g p μ (fun o => mt_n g p o (mt_K μ)) (fun _ => True) μ1 v ∧
      μ'.2 = μ1.2 ∧ (∀ b j, ¬ b = 37 → μ'.1 b j = μ1.1 b j) ∧ (∀ j, ¬ j = 0 → μ'.1 37 j = μ1.1 37 j) ∧ (∀ i, ¬ i / 3 = p → μ'.1 37 0 i = μ1.1 37 0 i) ∧
      (∀ t, t < 3 → μ'.1 37 0 (3 * p + t) = if 0 < mt_n g p 1 (mt_K μ) ∧ 0 < mt_n g p 2 (mt_K μ) ∧ 0 < mt_n g p 3 (mt_K μ) then nI (mt_n g p (t + 1) (mt_K μ)) else 0)) (fun _ _ => False) := by
  have hp16 : p < 16 := Nat.lt_of_lt_of_le hp hg.2.1
  have hm := (hg.2.2.2.2.1 p hp).1
  have hn11 : ∀ o, mt_n g p o (mt_K μ) ≤ 10 := fun o => by
    unfold mt_n
    split
    · rename_i h; exact h10 _ (gq_sy8 hg hp h)
    · decide
  have e30 : (3 : Int32) * x = nI (3 * p) := by rw [hx, zn_3]
  have e31 : (3 : Int32) * x + 1 = nI (3 * p + 1) := by rw [e30]; exact nI_1 _
  have e32 : (3 : Int32) * x + 2 = nI (3 * p + 2) := by rw [e30, show (2 : Int32) = nI 2 from rfl, nI_add]
  have b30 : vp_in ((3 : Int32) * x) 48 := zn_i e30 (by omega) (by decide)
  have b31 : vp_in ((3 : Int32) * x + 1) 48 := zn_i e31 (by omega) (by decide)
  have b32 : vp_in ((3 : Int32) * x + 2) 48 := zn_i e32 (by omega) (by decide)
  refine zs_M_work (Nat.le_of_ble_eq_true rfl) (by omega) (fun ZZ run => ?_)
  refine run [28] 60 0 _ _ _ _ ?_
  refine ⟨d - 1, 0, 0, _, _, by omega, Nat.le_refl _, Nat.le_refl _, ct_M_countOf (o := 1) hg hM hok hx rfl (by decide) hp (by omega), ?_, fun _ _ h => h.elim⟩
  rintro r μ2 ⟨rfl, rfl⟩
  refine ⟨d - 1, 0, 0, _, _, by omega, Nat.le_refl _, Nat.le_refl _, ct_M_countOf (o := 2) hg hM hok hx rfl (by decide) hp (by omega), ?_, fun _ _ h => h.elim⟩
  rintro r μ3 ⟨rfl, rfl⟩
  refine ⟨d - 1, 0, 0, _, _, by omega, Nat.le_refl _, Nat.le_refl _, ct_M_countOf (o := 3) hg hM hok hx rfl (by decide) hp (by omega), ?_, fun _ _ h => h.elim⟩
  rintro r μ ⟨rfl, rfl⟩
  generalize hn : (fun o => mt_n g p o (mt_K μ)) = n at hdone
  have hn1 : mt_n g p 1 (mt_K μ) = n 1 := by rw [← hn]
  have hn2 : mt_n g p 2 (mt_K μ) = n 2 := by rw [← hn]
  have hn3 : mt_n g p 3 (mt_K μ) = n 3 := by rw [← hn]
  have hb1 : n 1 ≤ 10 := by rw [← hn1]; exact hn11 1
  have hb2 : n 2 ≤ 10 := by rw [← hn2]; exact hn11 2
  have hb3 : n 3 ≤ 10 := by rw [← hn3]; exact hn11 3
  have loop1 := zn_for (σ := za_M × Int32 × Option za_V × Option za_V) (N := n 1)
    (P := fun i t => ∀ a b c yi : Int32, a = nI (n 1) → b = nI (n 2) → c = nI (n 3) → yi = nI i → ZZ 28 [some (za_r 30 0), some (za_i x), some (za_i a), some (za_i b), some (za_i c), some (za_i t.2.1), some (za_i yi), t.2.2.1, t.2.2.2] [] t.1 (0, 0))
    (I := fun i t => wk_I g p μ n (fun idx => idx 1 < i) t.1 t.2.1)
    (fun t h a b c yi ha hb hc hyi => by
      have h155 : ∀ w : Int32, (w = 0 ∨ w = 1) → (w = 1 ↔ (0 < n 1 ∧ 0 < n 2 ∧ 0 < n 3)) → ZZ 155 [some (za_r 30 0), some (za_i x), some (za_i a), some (za_i b), some (za_i c), some (za_i t.2.1), some (za_i w), t.2.2.1, t.2.2.2] [] t.1 (0, 0) := by
        intro w hw hw1
        have fin : ∀ v0 v1 v2 : Int32, (∀ u, u < 3 → (if u = 0 then v0 else if u = 1 then v1 else v2) = if 0 < n 1 ∧ 0 < n 2 ∧ 0 < n 3 then nI (n (u + 1)) else 0) → ∃ (v : Int32) (μ1 : za_M), some (za_i t.2.1) = some (za_i v) ∧ wk_I g p μ n (fun _ => True) μ1 v ∧ t.1.2 = μ1.2 ∧ (∀ b j, ¬ b = 37 → za_u (za_u (za_u t.1.1 37 0 ((3 : Int32) * x).toNatClampNeg v0) 37 0 ((3 : Int32) * x + 1).toNatClampNeg v1) 37 0 ((3 : Int32) * x + 2).toNatClampNeg v2 b j = μ1.1 b j) ∧ (∀ j, ¬ j = 0 → za_u (za_u (za_u t.1.1 37 0 ((3 : Int32) * x).toNatClampNeg v0) 37 0 ((3 : Int32) * x + 1).toNatClampNeg v1) 37 0 ((3 : Int32) * x + 2).toNatClampNeg v2 37 j = μ1.1 37 j) ∧ (∀ i, ¬ i / 3 = p → za_u (za_u (za_u t.1.1 37 0 ((3 : Int32) * x).toNatClampNeg v0) 37 0 ((3 : Int32) * x + 1).toNatClampNeg v1) 37 0 ((3 : Int32) * x + 2).toNatClampNeg v2 37 0 i = μ1.1 37 0 i) ∧
            (∀ u, u < 3 → za_u (za_u (za_u t.1.1 37 0 ((3 : Int32) * x).toNatClampNeg v0) 37 0 ((3 : Int32) * x + 1).toNatClampNeg v1) 37 0 ((3 : Int32) * x + 2).toNatClampNeg v2 37 0 (3 * p + u) = if 0 < n 1 ∧ 0 < n 2 ∧ 0 < n 3 then nI (n (u + 1)) else 0) := by
          intro v0 v1 v2 hv
          rw [zn_c e30 (by omega), zn_c e31 (by omega), zn_c e32 (by omega)]
          refine ⟨t.2.1, t.1, rfl, wk_Ib h (fun _ idx q _ => q.1), rfl, fun b j q => ?_, fun j q => ?_, fun i q => ?_, fun u hu => ?_⟩
          · rw [za_u_b q, za_u_b q, za_u_b q]
          · rw [za_u_ne (fun z => q z.2), za_u_ne (fun z => q z.2), za_u_ne (fun z => q z.2)]
          · rw [za_u_i (by omega), za_u_i (by omega), za_u_i (by omega)]
          · rw [← hv u hu]
            rcases (show u = 0 ∨ u = 1 ∨ u = 2 by omega) with rfl | rfl | rfl
            · rw [za_u_i (by omega), za_u_i (by omega), Nat.add_zero, za_u_same, if_pos rfl]
            · rw [za_u_i (by omega), za_u_same, if_neg (by decide), if_pos rfl]
            · rw [za_u_same, if_neg (by decide), if_neg (by decide)]
        refine run [] 80 155 _ _ _ _ ?_
        rcases hw with rfl | rfl
        · refine ⟨fun _ => ⟨b30, fun _ => ⟨b31, fun _ => ⟨b32, ?_⟩, fun q => absurd rfl q⟩, fun q => absurd rfl q⟩, fun q => absurd rfl q⟩
          have hno : ¬ (0 < n 1 ∧ 0 < n 2 ∧ 0 < n 3) := fun z => absurd (hw1.mpr z) (by decide)
          refine ⟨rfl, Or.inr ⟨rfl, h.2.2.2.2.2.2.2.1.1⟩, Nat.le_refl _, Nat.le_refl _, ?_⟩
          rw [hn1, hn2, hn3]
          have key := fin 0 0 0 (fun u _ => by rw [if_neg hno]; split; rfl; split <;> rfl)
          rw [← hn] at key ⊢
          exact key
        · refine ⟨fun q => absurd q (by decide), fun _ => ⟨b30, fun q => absurd q (by decide), fun _ => ⟨b31, fun q => absurd q (by decide), fun _ => ⟨b32, ?_⟩⟩⟩⟩
          have hyes := hw1.mp rfl
          refine ⟨rfl, Or.inr ⟨rfl, h.2.2.2.2.2.2.2.1.1⟩, Nat.le_refl _, Nat.le_refl _, ?_⟩
          rw [hn1, hn2, hn3]
          have key := fin a b c (fun u hu => by
            rw [if_pos hyes]
            rcases (show u = 0 ∨ u = 1 ∨ u = 2 by omega) with rfl | rfl | rfl
            · rw [if_pos rfl]; exact ha
            · rw [if_neg (by decide), if_pos rfl]; exact hb
            · rw [if_neg (by decide), if_neg (by decide)]; exact hc)
          rw [← hn] at key ⊢
          exact key
      have hle0 : ∀ {k : Nat} {z : Int32}, k ≤ 10 → z = nI k → (z ≤ 0 ↔ ¬ 0 < k) := by
        intro k z hk hz
        rw [hz]
        constructor
        · intro q hk0
          exact absurd q (nI_ge hk0 (by omega))
        · intro q
          rw [show k = 0 by omega]
          exact Int32.le_refl _
      refine run [28, 155] 60 28 _ _ _ _ ?_
      refine ⟨fun _ => ?_, fun q => absurd (by rw [ha, hyi]; exact Int32.le_refl _) q⟩
      refine ⟨fun q1 => ?_, fun q1 => ⟨fun q2 => ?_, fun q2 => ⟨fun q3 => ?_, fun q3 => ?_⟩⟩⟩
      · exact h155 0 (Or.inl rfl) ⟨fun q => absurd q (by decide), fun q => absurd q.1 ((hle0 hb1 ha).mp q1)⟩
      · exact h155 0 (Or.inl rfl) ⟨fun q => absurd q (by decide), fun q => absurd q.2.1 ((hle0 hb2 hb).mp q2)⟩
      · exact h155 0 (Or.inl rfl) ⟨fun q => absurd q (by decide), fun q => absurd q.2.2 ((hle0 hb3 hc).mp q3)⟩
      · exact h155 1 (Or.inr rfl) ⟨fun _ => ⟨Classical.byContradiction fun z => q1 ((hle0 hb1 ha).mpr z), Classical.byContradiction fun z => q2 ((hle0 hb2 hb).mpr z), Classical.byContradiction fun z => q3 ((hle0 hb3 hc).mpr z)⟩, fun _ => rfl⟩)
    (fun i t hi h ih a b c yi ha hb hc hyi => by
      have loop2 := zn_for (σ := za_M × Int32 × Option za_V) (N := n 2)
        (P := fun j t => ∀ yj : Int32, yj = nI j → ZZ 37 [some (za_r 30 0), some (za_i x), some (za_i a), some (za_i b), some (za_i c), some (za_i t.2.1), some (za_i yi), some (za_i yj), t.2.2] [] t.1 (0, 0))
        (I := fun j t => wk_I g p μ n (fun idx => idx 1 < i ∨ (idx 1 = i ∧ idx 2 < j)) t.1 t.2.1)
        (fun t h yj hyj => by
          refine run [28, 37] 60 37 _ _ _ _ ?_
          refine ⟨fun _ => ?_, fun q => absurd (by rw [hb, hyj]; exact Int32.le_refl _) q⟩
          exact ih (t.1, t.2.1, some (za_i yj), t.2.2) (wk_Ib h (fun _ idx q z => by have := q.2.1; omega)) a b c _ ha hb hc (zn_s hyi))
        (fun j t hj h ih2 yj hyj => by
          have loop3 := zn_for (σ := za_M × Int32 × Unit) (N := n 3)
            (P := fun k t => ∀ yk : Int32, yk = nI k → ZZ 46 [some (za_r 30 0), some (za_i x), some (za_i a), some (za_i b), some (za_i c), some (za_i t.2.1), some (za_i yi), some (za_i yj), some (za_i yk)] [] t.1 (0, 0))
            (I := fun k t => wk_I g p μ n (fun idx => idx 1 < i ∨ (idx 1 = i ∧ (idx 2 < j ∨ (idx 2 = j ∧ idx 3 < k)))) t.1 t.2.1)
            (fun t h yk hyk => by
              refine run [37, 46] 60 46 _ _ _ _ ?_
              refine ⟨fun _ => ?_, fun q => absurd (by rw [hc, hyk]; exact Int32.le_refl _) q⟩
              exact ih2 (t.1, t.2.1, some (za_i yk)) (wk_Ib h (fun _ idx q z => by have := q.2.2; omega)) _ (zn_s hyj))
            (fun k t hk h ih3 yk hyk => by
              refine run [37, 46, 103, 117] 60 46 _ _ _ _ ?_
              refine ⟨fun q => absurd q (zn_ge hyk hc hk (by omega)), fun _ => ⟨fun h1 => ?_, fun h1 => ?_⟩⟩
              · exact ih2 (t.1, t.2.1, some (za_i yk)) (wk_Ib h (fun q => absurd q h1)) _ (zn_s hyj)
              · have hidx : tb_ix n (fun o => if o = 1 then i else if o = 2 then j else k) := ⟨hi, hj, hk⟩
                obtain ⟨j1, j2, j3, j4, j5, j6, j7, j8, j9⟩ := h
                have put : (mt_d μ (3 * p) ≤ i ∨ mt_d μ (3 * p + 1) ≤ j ∨ mt_d μ (3 * p + 2) ≤ k) → ZZ 103 [some (za_r 30 0), some (za_i x), some (za_i a), some (za_i b), some (za_i c), some (za_i t.2.1), some (za_i yi), some (za_i yj), some (za_i yk)] [] t.1 (0, 0) := by
                  intro hnew
                  have hin : tb_in g p (fun o => if o = 1 then i else if o = 2 then j else k) (mt_K t.1) := tb_inm hg hp (tb_ixin hm (by rw [hn]; exact hidx)) j3
                  refine run [46] 60 103 _ _ _ _ ?_
                  refine ⟨d - 1, 0, 0, _, _, by omega, Nat.le_refl _, Nat.le_refl _, ct_M_put (idx := fun o => if o = 1 then i else if o = 2 then j else k) hg (mp_M hM j7) j1 j2 (j5 h1) h1 hx hyi hyj hyk hin hp (by omega), ?_, fun _ _ h => h.elim⟩
                  rintro r ν ⟨rfl, p1, p2, p3, p4, p5, p6, p7, p8⟩
                  refine ih3 (ν, 1, ()) ⟨p1, p2, tb_tt j3 p3, p5, p6, p7.trans j6, mp_tr j7 p8, ⟨Or.inr rfl, fun q => absurd q (show ¬ (1 : Int32) = 0 by decide), fun _ => ⟨_, hidx, hnew⟩⟩, fun q idx q1 q2 => ?_⟩ _ (zn_s hyk)
                  by_cases e : idx 1 = i ∧ idx 2 = j ∧ idx 3 = k
                  · have hc : ∀ o, 1 ≤ o → o ≤ gq_m g p → tb_c g p (fun o => if o = 1 then i else if o = 2 then j else k) (mt_T ν) o = tb_c g p idx (mt_T ν) o := by
                      intro o oa ob
                      unfold tb_c
                      rcases (show o = 1 ∨ o = 2 ∨ o = 3 by omega) with rfl | rfl | rfl
                      · rw [e.1]; rfl
                      · rw [e.2.1]; rfl
                      · rw [e.2.2]; rfl
                    obtain ⟨⟨jj, z1, z2⟩, z3⟩ := p4
                    exact ⟨⟨jj, z1, gr_isc hc z2⟩, fun z => z3 ((gr_cic hc).mpr z)⟩
                  · exact tb_trm hg hp (tb_inm hg hp (tb_ixin hm (by rw [hn]; exact q1)) j3) p3 (j9 h1 idx q1 (by omega))
                have keep : i < mt_d μ (3 * p) → j < mt_d μ (3 * p + 1) → k < mt_d μ (3 * p + 2) → ZZ 117 [some (za_r 30 0), some (za_i x), some (za_i a), some (za_i b), some (za_i c), some (za_i t.2.1), some (za_i yi), some (za_i yj), some (za_i yk)] [] t.1 (0, 0) := by
                  intro q1 q2 q3
                  refine run [46] 60 117 _ _ _ _ ?_
                  refine ih3 (t.1, t.2.1, ()) ⟨j1, j2, j3, j4, j5, j6, j7, j8, fun q idx z1 z2 => ?_⟩ _ (zn_s hyk)
                  by_cases e : idx 1 = i ∧ idx 2 = j ∧ idx 3 = k
                  · exact tb_trm hg hp (tb_ixin hm (by rw [hn]; exact z1)) j3 (hdone idx (by omega) (by omega) (by omega) z1)
                  · exact j9 h1 idx z1 (by omega)
                have d0 : t.1.1 37 0 ((3 : Int32) * x).toNatClampNeg = nI (mt_d μ (3 * p)) := by rw [zn_c e30 (by omega), j6]; exact (hdk _ (by omega)).1
                have d1 : t.1.1 37 0 ((3 : Int32) * x + 1).toNatClampNeg = nI (mt_d μ (3 * p + 1)) := by rw [zn_c e31 (by omega), j6]; exact (hdk _ (by omega)).1
                have d2 : t.1.1 37 0 ((3 : Int32) * x + 2).toNatClampNeg = nI (mt_d μ (3 * p + 2)) := by rw [zn_c e32 (by omega), j6]; exact (hdk _ (by omega)).1
                have m0 := (hdk (3 * p) (by omega)).2
                have m1 := (hdk (3 * p + 1) (by omega)).2
                have m2 := (hdk (3 * p + 2) (by omega)).2
                refine ⟨b30, fun q => put (Or.inl ?_), fun q => ⟨b31, fun q2 => put (Or.inr (Or.inl ?_)), fun q2 => ⟨b32, fun q3 => keep ?_ ?_ ?_, fun q3 => put (Or.inr (Or.inr ?_))⟩⟩⟩
                · exact Classical.byContradiction fun z => zn_ge hyi d0 (by omega) (by omega) q
                · exact Classical.byContradiction fun z => zn_ge hyj d1 (by omega) (by omega) q2
                · exact Classical.byContradiction fun z => q (by rw [d0, hyi]; exact nI_le (by omega) (by omega))
                · exact Classical.byContradiction fun z => q2 (by rw [d1, hyj]; exact nI_le (by omega) (by omega))
                · exact Classical.byContradiction fun z => zn_nl hyk d2 (by omega) (by omega) q3
                · exact Classical.byContradiction fun z => q3 (zn_lt2 hyk d2 (by omega) (by omega)))
          refine run [37, 46] 60 37 _ _ _ _ ?_
          refine ⟨fun q => absurd q (zn_ge hyj hb hj (by omega)), fun _ => ?_⟩
          exact loop3 0 (t.1, t.2.1, ()) (Nat.zero_le _) (wk_Ib h (fun _ idx _ z => by omega)) 0 rfl)
      refine run [28, 37] 60 28 _ _ _ _ ?_
      refine ⟨fun q => absurd q (zn_ge hyi ha hi (by omega)), fun _ => ?_⟩
      exact loop2 0 (t.1, t.2.1, t.2.2.2) (Nat.zero_le _) (wk_Ib h (fun _ idx _ z => by omega)) 0 rfl)
  refine loop1 0 (μ, 0, none, none) (Nat.zero_le _) ⟨hok, hso, tb_rf, fun q => absurd (h8.symm.trans q) (by decide), fun _ => h10, rfl, mp_rf, ⟨Or.inl rfl, fun _ => rfl, fun q => absurd q (show ¬ (0 : Int32) = 1 by decide)⟩, fun _ idx _ q => absurd q (Nat.not_lt_zero _)⟩ _ _ _ 0 (by rw [hn1]) (by rw [hn2]) (by rw [hn3]) rfl
