/-! grammars, grown; the class's productions -/
def gq_addS (g : gq_G) (a : Nat) (w : Int32) : gq_G := ((gq_ns g + 1, fun s => if s = gq_ns g then a else gq_at g s, fun s => if s = gq_ns g then w else gq_dn g s), g.2)
def gq_addP (g : gq_G) (h : Nat) : gq_G := (g.1, (gq_np g + 1, fun q => if q = gq_np g then 0 else gq_m g q, fun q o => if q = gq_np g then h else gq_sy g q o, fun q x => if q = gq_np g then 0 else gq_nd g q x))
def gq_addO (g : gq_G) (p s : Nat) : gq_G := (g.1, (gq_np g, fun q => if q = p then gq_m g p + 1 else gq_m g q, fun q o => if q = p ∧ o = gq_m g p + 1 then s else gq_sy g q o, g.2.2.2.2))
def gq_addD (g : gq_G) (p x y : Nat) : gq_G := (g.1, (gq_np g, g.2.2.1, g.2.2.2.1, fun q z => if q = p ∧ z = x then gq_nd g p x ||| (1 <<< (nI y &&& 31)) else gq_nd g q z))
def gq_0 : gq_G := ((0, fun _ => 0, fun _ => 0), (0, fun _ => 0, fun _ _ => 0, fun _ _ => 0))
/-- places of a production that has not changed -/
theorem gq_th_eq {g g' : gq_G} {p x : Nat} (hm : gq_m g' p = gq_m g p) (hs : x / 8 ≤ gq_m g p → gq_sy g' p (x / 8) = gq_sy g p (x / 8) ∧ gq_at g' (gq_sy g p (x / 8)) = gq_at g (gq_sy g p (x / 8))) : gq_th g' p x ↔ gq_th g p x := by
  unfold gq_th
  rw [hm]
  refine and_congr_right fun q => ?_
  rw [(hs q).1, (hs q).2]
theorem gq_df_eq {g g' : gq_G} {p x : Nat} (hth : gq_th g' p x ↔ gq_th g p x) (hd : gq_th g p x → gq_dn g' (gq_sy g' p (x / 8)) = gq_dn g (gq_sy g p (x / 8))) : (gq_df g' p x ↔ gq_df g p x) ∧ (gq_gv g' p x ↔ gq_gv g p x) := by
  unfold gq_df gq_gv
  rw [hth]
  refine ⟨and_congr_right fun q => ?_, and_congr_right fun q => ?_⟩
  · rw [hd q]
  · rw [hd q]
theorem gq_0_ok : gq_ok gq_0 := ⟨Nat.zero_le _, Nat.zero_le _, fun s hs => absurd hs (Nat.not_lt_zero s), fun h => absurd h (Nat.lt_irrefl 0), fun p hp => absurd hp (Nat.not_lt_zero p), fun p _ _ hp => absurd hp (Nat.not_lt_zero p)⟩
/-- a symbol more -/
theorem gq_addS_df {g : gq_G} (hg : gq_ok g) (a : Nat) (w : Int32) {p : Nat} (hp : p < gq_np g) (x : Nat) : (gq_df (gq_addS g a w) p x ↔ gq_df g p x) ∧ (gq_gv (gq_addS g a w) p x ↔ gq_gv g p x) := by
  have hs : x / 8 ≤ gq_m g p → gq_sy g p (x / 8) ≠ gq_ns g := fun q => Nat.ne_of_lt ((hg.2.2.2.2.1 p hp).2 _ q)
  refine gq_df_eq (gq_th_eq rfl (fun q => ⟨rfl, if_neg (hs q)⟩)) (fun q => ?_)
  exact if_neg (hs q.1)
theorem gq_addS_ok {g : gq_G} (hg : gq_ok g) {a : Nat} {w : Int32} (hn : gq_ns g < 8) (ha : a ≤ 6) (hw : ∀ b, bt w b = true → b < a) (h0 : gq_ns g = 0 → w = 0) : gq_ok (gq_addS g a w) := by
  refine ⟨hn, hg.2.1, fun s hs => ?_, fun _ => ?_, fun p hp => ⟨(hg.2.2.2.2.1 p hp).1, fun o ho => Nat.lt_succ_of_lt ((hg.2.2.2.2.1 p hp).2 o ho)⟩, fun p x y hp hx hb => ?_⟩
  · show (if s = gq_ns g then a else gq_at g s) ≤ 6 ∧ ∀ b, bt (if s = gq_ns g then w else gq_dn g s) b = true → b < (if s = gq_ns g then a else gq_at g s)
    by_cases e : s = gq_ns g
    · rw [if_pos e, if_pos e]; exact ⟨ha, hw⟩
    · rw [if_neg e, if_neg e]
      have hs : s < gq_ns g + 1 := hs
      exact hg.2.2.1 s (by omega)
  · show (if 0 = gq_ns g then w else gq_dn g 0) = 0
    by_cases e : 0 = gq_ns g
    · rw [if_pos e]; exact h0 e.symm
    · rw [if_neg e]; exact hg.2.2.2.1 (by omega)
  · have := hg.2.2.2.2.2 p x y hp hx hb
    exact ⟨(gq_addS_df hg a w hp x).1.mpr this.1, (gq_addS_df hg a w hp y).2.mpr this.2⟩
/-- a dependence more -/
theorem gq_addD_df {g : gq_G} (p x y q z : Nat) : (gq_df (gq_addD g p x y) q z ↔ gq_df g q z) ∧ (gq_gv (gq_addD g p x y) q z ↔ gq_gv g q z) := ⟨Iff.rfl, Iff.rfl⟩
theorem b_or1 (u : Int32) {y : Nat} (hy : y < 32) (b : Nat) : bt (u ||| (1 <<< (nI y &&& 31))) b = (bt u b || decide (b = y)) := by
  by_cases hb : b < 32
  · rw [b_or, b_shl y hy 1 hb, zb_b1 (b - y) (by omega)]
    congr 1
    by_cases e : b = y
    · subst e; simp
    · rw [decide_eq_false e, Bool.and_eq_false_iff]
      by_cases q : y ≤ b
      · exact Or.inr (decide_eq_false (by omega))
      · exact Or.inl (decide_eq_false q)
  · rw [b_big (Nat.le_of_not_lt hb), b_big (Nat.le_of_not_lt hb), decide_eq_false (by omega)]
    rfl
theorem gq_addD_ok {g : gq_G} (hg : gq_ok g) {p x y : Nat} (hy : y < 32) (hx : gq_df g p x) (hv : gq_gv g p y) : gq_ok (gq_addD g p x y) := by
  refine ⟨hg.1, hg.2.1, hg.2.2.1, hg.2.2.2.1, hg.2.2.2.2.1, fun q z b hq hz hb => ?_⟩
  have hb : bt (if q = p ∧ z = x then gq_nd g p x ||| (1 <<< (nI y &&& 31)) else gq_nd g q z) b = true := hb
  by_cases e : q = p ∧ z = x
  · rw [if_pos e, b_or1 _ hy, Bool.or_eq_true, decide_eq_true_eq] at hb
    obtain ⟨rfl, rfl⟩ := e
    rcases hb with hb | rfl
    · exact hg.2.2.2.2.2 q z b hq hz hb
    · exact ⟨hx, hv⟩
  · rw [if_neg e] at hb
    exact hg.2.2.2.2.2 q z b hq hz hb
theorem gq_addD_same {g : gq_G} {p x y : Nat} (hy : y < 32) (hb : bt (gq_nd g p x) y = true) : gq_nd g p x ||| (1 <<< (nI y &&& 31)) = gq_nd g p x := by
  refine b_ext fun i _ => ?_
  rw [b_or1 _ hy]
  by_cases e : i = y
  · subst e; rw [hb]; rfl
  · rw [decide_eq_false e, Bool.or_false]
/-- a production more, without parts yet -/
theorem gq_addP_df {g : gq_G} (h : Nat) {p : Nat} (hp : p < gq_np g) (x : Nat) : (gq_df (gq_addP g h) p x ↔ gq_df g p x) ∧ (gq_gv (gq_addP g h) p x ↔ gq_gv g p x) := by
  have hne : p ≠ gq_np g := Nat.ne_of_lt hp
  have e1 : gq_sy (gq_addP g h) p (x / 8) = gq_sy g p (x / 8) := if_neg hne
  refine gq_df_eq (gq_th_eq (if_neg hne) (fun _ => ⟨e1, rfl⟩)) (fun _ => ?_)
  show gq_dn g (gq_sy (gq_addP g h) p (x / 8)) = _
  rw [e1]
theorem gq_addP_ok {g : gq_G} (hg : gq_ok g) {h : Nat} (hn : gq_np g < 16) (hh : h < gq_ns g) : gq_ok (gq_addP g h) := by
  refine ⟨hg.1, hn, hg.2.2.1, hg.2.2.2.1, fun p hp => ?_, fun p x y hp hx hb => ?_⟩
  · show (if p = gq_np g then 0 else gq_m g p) ≤ 3 ∧ ∀ o, o ≤ (if p = gq_np g then 0 else gq_m g p) → (if p = gq_np g then h else gq_sy g p o) < gq_ns g
    have hp : p < gq_np g + 1 := hp
    by_cases e : p = gq_np g
    · rw [if_pos e]
      exact ⟨by omega, fun o _ => by rw [if_pos e]; exact hh⟩
    · rw [if_neg e]
      exact ⟨(hg.2.2.2.2.1 p (by omega)).1, fun o ho => by rw [if_neg e]; exact (hg.2.2.2.2.1 p (by omega)).2 o ho⟩
  · have hp : p < gq_np g + 1 := hp
    have hb : bt (if p = gq_np g then 0 else gq_nd g p x) y = true := hb
    by_cases e : p = gq_np g
    · rw [if_pos e, b_0] at hb; cases hb
    · rw [if_neg e] at hb
      have := hg.2.2.2.2.2 p x y (by omega) hx hb
      exact ⟨(gq_addP_df h (by omega) x).1.mpr this.1, (gq_addP_df h (by omega) y).2.mpr this.2⟩
/-- a part more -/
theorem gq_addO_df {g : gq_G} (p s q x : Nat) (h : q ≠ p ∨ x / 8 ≤ gq_m g p) : (gq_df (gq_addO g p s) q x ↔ gq_df g q x) ∧ (gq_gv (gq_addO g p s) q x ↔ gq_gv g q x) := by
  have e1 : gq_sy (gq_addO g p s) q (x / 8) = gq_sy g q (x / 8) := if_neg (fun z => by rcases h with h | h <;> omega)
  have hth : gq_th (gq_addO g p s) q x ↔ gq_th g q x := by
    unfold gq_th
    rw [e1]
    show x / 8 ≤ (if q = p then gq_m g p + 1 else gq_m g q) ∧ _ ↔ _
    by_cases e : q = p
    · rw [if_pos e]
      subst e
      have : x / 8 ≤ gq_m g q := h.resolve_left (fun z => z rfl)
      exact ⟨fun z => ⟨this, z.2⟩, fun z => ⟨by omega, z.2⟩⟩
    · rw [if_neg e]; exact Iff.rfl
  refine gq_df_eq hth (fun _ => ?_)
  show gq_dn g (gq_sy (gq_addO g p s) q (x / 8)) = _
  rw [e1]
theorem gq_addO_ok {g : gq_G} (hg : gq_ok g) {p s : Nat} (hp : p < gq_np g) (hm : gq_m g p < 3) (hs : s < gq_ns g) : gq_ok (gq_addO g p s) := by
  refine ⟨hg.1, hg.2.1, hg.2.2.1, hg.2.2.2.1, fun q hq => ?_, fun q x y hq hx hb => ?_⟩
  · show (if q = p then gq_m g p + 1 else gq_m g q) ≤ 3 ∧ ∀ o, o ≤ (if q = p then gq_m g p + 1 else gq_m g q) → (if q = p ∧ o = gq_m g p + 1 then s else gq_sy g q o) < gq_ns g
    by_cases e : q = p
    · rw [if_pos e]
      refine ⟨by omega, fun o ho => ?_⟩
      by_cases e2 : o = gq_m g p + 1
      · rw [if_pos ⟨e, e2⟩]; exact hs
      · rw [if_neg (fun z => e2 z.2), e]; exact (hg.2.2.2.2.1 p hp).2 o (by omega)
    · rw [if_neg e]
      exact ⟨(hg.2.2.2.2.1 q hq).1, fun o ho => by rw [if_neg (fun z => e z.1)]; exact (hg.2.2.2.2.1 q hq).2 o ho⟩
  · obtain ⟨h1, h2⟩ := hg.2.2.2.2.2 q x y hq hx hb
    refine ⟨(gq_addO_df p s q x ?_).1.mpr h1, (gq_addO_df p s q y ?_).2.mpr h2⟩
    · by_cases e : q = p
      · subst e; exact Or.inr h1.1.1
      · exact Or.inl e
    · by_cases e : q = p
      · subst e; exact Or.inr h2.1.1
      · exact Or.inl e
/-- a part, or none -/
def gq_ap (g : gq_G) (p : Nat) (S : Int32) : gq_G := if S = -1 then g else gq_addO g p S.toNatClampNeg
def gq_pt (g : gq_G) (S : Int32) : Prop := S = -1 ∨ ∃ s, s < gq_ns g ∧ S = nI s
theorem gq_ap_ok {g : gq_G} (hg : gq_ok g) {p : Nat} {S : Int32} (hp : p < gq_np g) (hm : gq_m g p < 3) (hS : gq_pt g S) : gq_ok (gq_ap g p S) ∧ gq_ns (gq_ap g p S) = gq_ns g ∧ gq_np (gq_ap g p S) = gq_np g ∧ gq_m (gq_ap g p S) p ≤ gq_m g p + 1 := by
  unfold gq_ap
  by_cases e : S = -1
  · rw [if_pos e]; exact ⟨hg, rfl, rfl, by omega⟩
  · rw [if_neg e]
    obtain ⟨s, h1, h2⟩ := hS.resolve_left e
    have hns := hg.1
    rw [zn_c h2 (by omega)]
    refine ⟨gq_addO_ok hg hp hm h1, rfl, rfl, ?_⟩
    show (if p = p then gq_m g p + 1 else _) ≤ _
    rw [if_pos rfl]
    omega
def gq_pr (g : gq_G) (h : Nat) (S1 S2 S3 : Int32) : gq_G := gq_ap (gq_ap (gq_ap (gq_addP g h) (gq_np g) S1) (gq_np g) S2) (gq_np g) S3
theorem gq_pr_ok {g : gq_G} (hg : gq_ok g) {h : Nat} {S1 S2 S3 : Int32} (hn : gq_np g < 16) (hh : h < gq_ns g) (h1 : gq_pt g S1) (h2 : gq_pt g S2) (h3 : gq_pt g S3) : gq_ok (gq_pr g h S1 S2 S3) := by
  have a0 := gq_addP_ok hg hn hh
  have m0 : gq_m (gq_addP g h) (gq_np g) = 0 := if_pos rfl
  obtain ⟨a1, b1, c1, d1⟩ := gq_ap_ok a0 (p := gq_np g) (Nat.lt_succ_self _) (by omega) (S := S1) h1
  have c1' : gq_np (gq_ap (gq_addP g h) (gq_np g) S1) = gq_np g + 1 := c1
  have b1' : gq_ns (gq_ap (gq_addP g h) (gq_np g) S1) = gq_ns g := b1
  obtain ⟨a2, b2, c2, d2⟩ := gq_ap_ok a1 (p := gq_np g) (by omega) (by omega) (S := S2) (by unfold gq_pt; rw [b1']; exact h2)
  exact (gq_ap_ok a2 (p := gq_np g) (by omega) (by omega) (S := S3) (by unfold gq_pt; rw [b2, b1']; exact h3)).1
set_option maxHeartbeats 8000000 in
theorem ct_G_addPart {Γ : zk_G} {d p : Nat} {P S : Int32} {μ : za_M} {g : gq_G} (hg : gq_ok g) (hC : gq_C g μ) (hP : P = nI p) (hp : p < gq_np g) (hm : gq_m g p < 3) (hS : gq_pt g S) (hd : 4 ≤ d) : zk_Ct zt Γ zm_G_addPart d 0 0 [za_r 1 0, za_i P, za_i S] μ (fun r μ' => r = none ∧ gq_C (gq_ap g p S) μ' ∧ zq_fr (fun b _ => b ≤ 10) μ μ') (fun _ _ => False) := by
  obtain ⟨c1, c2, c3, c4, c5, c6⟩ := gq_Cp hg hC hP hp
  have hns : gq_ns g ≤ 8 := hg.1
  refine zs_G_addPart (Nat.le_of_ble_eq_true rfl) (by omega) (fun ZZ run => ?_)
  refine run [16] 40 0 _ _ _ _ ?_
  refine ⟨fun h => ?_, fun h => ⟨c2, fun _ => ?_, fun q => absurd (zn_lt2 c4 (show (3 : Int32) = nI 3 from rfl) hm (by decide)) q⟩⟩
  · refine ⟨rfl, rfl, Nat.le_refl _, Nat.le_refl _, rfl, ?_, zq_rf⟩
    unfold gq_ap
    rw [if_pos h]
    exact hC
  obtain ⟨s, hs, hSs⟩ := hS.resolve_left h
  have hat := (hg.2.2.1 s hs).1
  have hcs : S.toNatClampNeg = s := zn_c hSs (by omega)
  have hbs : vp_in S 8 := zn_i hSs (by omega) (by decide)
  have e4 : (μ.1 4 0 P.toNatClampNeg) + 1 = nI (gq_m g p + 1) := zn_s c4
  refine run [62] 60 16 _ _ _ _ ?_
  suffices post : ∀ f : Nat → Nat → Nat → Int32, za_u μ.1 4 0 P.toNatClampNeg (μ.1 4 0 P.toNatClampNeg + 1) = f → f 4 0 P.toNatClampNeg = nI (gq_m g p + 1) → vp_in P 16 ∧ vp_in P 16 ∧ vp_in P 16 ∧ vp_in P 16 ∧ vp_in (f 4 0 P.toNatClampNeg) 4 ∧ vp_in P 16 ∧ vp_in S 8 ∧ vp_in P 16 ∧ ZZ 62 [some (za_r 1 0), some (za_i P), some (za_i S), some (za_i (f 4 0 P.toNatClampNeg))] [] (za_u (za_u f 6 P.toNatClampNeg (f 4 0 P.toNatClampNeg).toNatClampNeg S) 9 0 P.toNatClampNeg (za_u f 6 P.toNatClampNeg (f 4 0 P.toNatClampNeg).toNatClampNeg S 9 0 P.toNatClampNeg ||| (za_u f 6 P.toNatClampNeg (f 4 0 P.toNatClampNeg).toNatClampNeg S 3 0 S.toNatClampNeg <<< ((8 : Int32) * f 4 0 P.toNatClampNeg &&& 31))), μ.2) (0, 0) from post _ rfl (by dsimp only; rw [za_u_same]; exact e4)
  intro f hf hf4
  have hcf : (f 4 0 P.toNatClampNeg).toNatClampNeg = gq_m g p + 1 := zn_c hf4 (by omega)
  refine ⟨c2, c2, c2, c2, zn_i hf4 (by omega) (by decide), c2, hbs, c2, ?_⟩
  rw [hcf, c3, hcs]
  rw [c3] at hf hf4
  have f3 : f 3 0 s = gq_dn g s := by rw [← hf, za_u_b (show (3 : Nat) ≠ 4 by decide)]; exact (hC.2.2.1 s hs).2
  have f9 : ∀ q, f 9 0 q = μ.1 9 0 q := fun q => by rw [← hf, za_u_b (show (9 : Nat) ≠ 4 by decide)]
  have f10 : ∀ q, f 10 0 q = μ.1 10 0 q := fun q => by rw [← hf, za_u_b (show (10 : Nat) ≠ 4 by decide)]
  rw [za_u_b (show (9 : Nat) ≠ 6 by decide), za_u_b (show (3 : Nat) ≠ 6 by decide), f3, f9, hf4, zn_8]
  -- behind 62
  generalize hk1 : (za_u (za_u f 6 p (gq_m g p + 1) S) 9 0 p (μ.1 9 0 p ||| (gq_dn g s <<< (nI (8 * (gq_m g p + 1)) &&& 31))), μ.2) = κ1
  have k4 : ∀ q, κ1.1 4 0 q = if q = p then nI (gq_m g p + 1) else μ.1 4 0 q := fun q => by
    rw [← hk1]
    dsimp only
    rw [za_u_b (show (4 : Nat) ≠ 9 by decide), za_u_b (show (4 : Nat) ≠ 6 by decide), ← hf]
    by_cases e : q = p
    · subst e; rw [za_u_same, if_pos rfl]; rw [c3] at e4; exact e4
    · rw [za_u_i e, if_neg e]
  have k6 : ∀ q o, κ1.1 6 q o = if q = p ∧ o = gq_m g p + 1 then S else μ.1 6 q o := fun q o => by
    rw [← hk1]
    dsimp only
    rw [za_u_b (show (6 : Nat) ≠ 9 by decide)]
    unfold za_u
    by_cases e : q = p ∧ o = gq_m g p + 1
    · rw [if_pos e, if_pos ⟨rfl, e.1, e.2⟩]
    · rw [if_neg e, if_neg (fun z => e z.2), ← hf]
      unfold za_u
      rw [if_neg (fun z => absurd z.1 (by decide))]
  have k9 : ∀ q, κ1.1 9 0 q = if q = p then μ.1 9 0 p ||| (gq_dn g s <<< (nI (8 * (gq_m g p + 1)) &&& 31)) else μ.1 9 0 q := fun q => by
    rw [← hk1]
    dsimp only
    by_cases e : q = p
    · subst e; rw [za_u_same, if_pos rfl]
    · rw [za_u_i e, if_neg e, za_u_b (show (9 : Nat) ≠ 6 by decide), f9]
  have k10 : ∀ q, κ1.1 10 0 q = μ.1 10 0 q := fun q => by
    rw [← hk1]
    dsimp only
    rw [za_u_b (show (10 : Nat) ≠ 9 by decide), za_u_b (show (10 : Nat) ≠ 6 by decide), f10]
  have kb : ∀ b j, b ≠ 4 → b ≠ 6 → b ≠ 9 → κ1.1 b j = μ.1 b j := fun b j n1 n2 n3 => by
    rw [← hk1]
    dsimp only
    rw [za_u_b n3, za_u_b n2, ← hf, za_u_b n1]
  have kf : zq_fr (fun b _ => b ≤ 10) μ κ1 := by
    rw [← hk1, ← hf]
    exact zq_u (b := (za_u (za_u μ.1 4 0 p _) 6 p (gq_m g p + 1) S, μ.2)) (zq_u (b := (za_u μ.1 4 0 p _, μ.2)) (zq_u zq_rf (show 4 ≤ 10 by decide)) (show 6 ≤ 10 by decide)) (show 9 ≤ 10 by decide)
  have hupC : μ.1 2 0 s = nI (gq_at g s) := (hC.2.2.1 s hs).1
  refine run [] 60 62 _ _ _ _ ?_
  refine ⟨c2, ?_⟩
  have hCk : ∀ s, s < gq_ns g → κ1.1 2 0 s = nI (gq_at g s) ∧ κ1.1 3 0 s = gq_dn g s := fun s hs => by
    rw [kb 2 0 (by decide) (by decide) (by decide), kb 3 0 (by decide) (by decide) (by decide)]
    exact hC.2.2.1 s hs
  refine ⟨d - 1, 0, 0, _, _, by omega, Nat.le_refl _, Nat.le_refl _, ct_G_up' (g := g) hg hCk hSs hs (by omega), ?_, fun _ _ h => h.elim⟩
  rintro r μ1 ⟨⟨v, rfl, hv⟩, hμ1⟩
  have hμ1 := hμ1.symm
  subst hμ1
  refine ⟨c2, rfl, rfl, Nat.le_refl _, Nat.le_refl _, rfl, ?_⟩
  suffices post : ∀ μ2 : za_M, (za_u κ1.1 10 0 P.toNatClampNeg (κ1.1 10 0 P.toNatClampNeg ||| (v <<< ((8 : Int32) * f 4 0 p &&& 31))), κ1.2) = μ2 → gq_C (gq_ap g p S) μ2 ∧ zq_fr (fun b _ => b ≤ 10) μ μ2 from by
    rw [hf4] at post
    exact post _ rfl
  intro μ2 hμ2
  rw [c3, k10, hf4, zn_8] at hμ2
  have n10 : ∀ q, μ2.1 10 0 q = if q = p then μ.1 10 0 p ||| (v <<< (nI (8 * (gq_m g p + 1)) &&& 31)) else μ.1 10 0 q := fun q => by
    rw [← hμ2]
    dsimp only
    by_cases e : q = p
    · subst e; rw [za_u_same, if_pos rfl]
    · rw [za_u_i e, if_neg e, k10]
  have nb : ∀ b j, b ≠ 10 → μ2.1 b j = κ1.1 b j := fun b j n1 => by rw [← hμ2]; dsimp only; rw [za_u_b n1]
  refine ⟨?_, by rw [← hμ2]; exact zq_u kf (show 10 ≤ 10 by decide)⟩
  unfold gq_ap
  rw [if_neg h, hcs]
  refine ⟨?_, ?_, fun s hs => ?_, fun q hq => ?_⟩
  · rw [nb 1 0 (by decide), kb 1 0 (by decide) (by decide) (by decide)]; exact hC.1
  · rw [nb 1 0 (by decide), kb 1 0 (by decide) (by decide) (by decide)]; exact hC.2.1
  · rw [nb 2 0 (by decide), nb 3 0 (by decide)]; exact hCk s hs
  · have hq : q < gq_np g := hq
    obtain ⟨d1, d2, d3, d4, d5⟩ := hC.2.2.2 q hq
    rw [nb 4 0 (by decide), nb 6 q (by decide), nb 8 q (by decide), nb 9 0 (by decide), kb 8 q (by decide) (by decide) (by decide), k4, k9, n10]
    refine ⟨?_, fun o ho => ?_, d3, fun z hz => ?_, fun z hz => ?_⟩
    · show _ = nI (if q = p then gq_m g p + 1 else gq_m g q)
      by_cases e : q = p
      · rw [if_pos e, if_pos e]
      · rw [if_neg e, if_neg e]; exact d1
    · rw [k6]
      show _ = nI (if q = p ∧ o = gq_m g p + 1 then s else gq_sy g q o)
      have ho : o ≤ (if q = p then gq_m g p + 1 else gq_m g q) := ho
      by_cases e : q = p ∧ o = gq_m g p + 1
      · rw [if_pos e, if_pos e]; exact hSs
      · rw [if_neg e, if_neg e]
        refine d2 o ?_
        by_cases e2 : q = p
        · rw [if_pos e2] at ho
          have : o ≠ gq_m g p + 1 := fun z => e ⟨e2, z⟩
          rw [e2]; omega
        · rw [if_neg e2] at ho; exact ho
    · by_cases e : q = p
      · subst e
        rw [if_pos rfl, b_or, Bool.or_eq_true, bt_shl8 _ (by omega) hz, Bool.and_eq_true, decide_eq_true_eq, d4 z hz]
        by_cases hz8 : z / 8 ≤ gq_m g q
        · rw [(gq_addO_df q s q z (Or.inr hz8)).1]
          refine ⟨fun w => w.elim id (fun w => ?_), Or.inl⟩
          have := (hg.2.2.1 s hs).2 _ w.2
          omega
        · constructor
          · rintro (w | ⟨w1, w2⟩)
            · exact absurd w.1.1 hz8
            · have h6 := (hg.2.2.1 s hs).2 _ w2
              have ez : z / 8 = gq_m g q + 1 := by omega
              refine ⟨⟨?_, ?_⟩, ?_⟩
              · show z / 8 ≤ (if q = q then gq_m g q + 1 else gq_m g q)
                rw [if_pos rfl]; omega
              · rw [ez]
                show z % 8 < gq_at g (if q = q ∧ gq_m g q + 1 = gq_m g q + 1 then s else _)
                rw [if_pos ⟨rfl, rfl⟩]; omega
              · rw [ez]
                show bt (gq_dn g (if q = q ∧ gq_m g q + 1 = gq_m g q + 1 then s else _)) (z % 8) = true ↔ _
                rw [if_pos ⟨rfl, rfl⟩, show z % 8 = z - 8 * (gq_m g q + 1) by omega, w2]
                exact ⟨fun _ => by omega, fun _ => rfl⟩
          · rintro ⟨⟨w1, w2⟩, w3⟩
            have w1 : z / 8 ≤ (if q = q then gq_m g q + 1 else gq_m g q) := w1
            rw [if_pos rfl] at w1
            have ez : z / 8 = gq_m g q + 1 := by omega
            rw [ez] at w3
            have w3 : bt (gq_dn g (if q = q ∧ gq_m g q + 1 = gq_m g q + 1 then s else _)) (z % 8) = true ↔ 7 < z := w3
            rw [if_pos ⟨rfl, rfl⟩] at w3
            refine Or.inr ⟨by omega, ?_⟩
            rw [show z - 8 * (gq_m g q + 1) = z % 8 by omega]
            exact w3.mpr (by omega)
      · rw [if_neg e, d4 z hz, (gq_addO_df p s q z (Or.inl e)).1]
    · by_cases e : q = p
      · subst e
        rw [if_pos rfl, b_or, Bool.or_eq_true, bt_shl8 _ (by omega) hz, Bool.and_eq_true, decide_eq_true_eq, d5 z hz]
        by_cases hz8 : z / 8 ≤ gq_m g q
        · rw [(gq_addO_df q s q z (Or.inr hz8)).2]
          refine ⟨fun w => w.elim id (fun w => ?_), Or.inl⟩
          have := ((hv _).mp w.2).1
          omega
        · constructor
          · rintro (w | ⟨w1, w2⟩)
            · exact absurd w.1.1 hz8
            · have h6 := (hv _).mp w2
              have ez : z / 8 = gq_m g q + 1 := by omega
              refine ⟨⟨?_, ?_⟩, ?_⟩
              · show z / 8 ≤ (if q = q then gq_m g q + 1 else gq_m g q)
                rw [if_pos rfl]; omega
              · rw [ez]
                show z % 8 < gq_at g (if q = q ∧ gq_m g q + 1 = gq_m g q + 1 then s else _)
                rw [if_pos ⟨rfl, rfl⟩]; omega
              · rw [ez]
                show ¬ (bt (gq_dn g (if q = q ∧ gq_m g q + 1 = gq_m g q + 1 then s else _)) (z % 8) = true ↔ _)
                rw [if_pos ⟨rfl, rfl⟩, show z % 8 = z - 8 * (gq_m g q + 1) by omega, h6.2]
                intro w
                exact absurd (w.mpr (by omega)) (by decide)
          · rintro ⟨⟨w1, w2⟩, w3⟩
            have w1 : z / 8 ≤ (if q = q then gq_m g q + 1 else gq_m g q) := w1
            rw [if_pos rfl] at w1
            have ez : z / 8 = gq_m g q + 1 := by omega
            rw [ez] at w2 w3
            have w2 : z % 8 < gq_at g (if q = q ∧ gq_m g q + 1 = gq_m g q + 1 then s else _) := w2
            have w3 : ¬ (bt (gq_dn g (if q = q ∧ gq_m g q + 1 = gq_m g q + 1 then s else _)) (z % 8) = true ↔ 7 < z) := w3
            rw [if_pos ⟨rfl, rfl⟩] at w2 w3
            refine Or.inr ⟨by omega, ?_⟩
            rw [show z - 8 * (gq_m g q + 1) = z % 8 by omega]
            refine (hv _).mpr ⟨w2, ?_⟩
            cases hq9 : bt (gq_dn g s) (z % 8) with
            | false => rfl
            | true => exact absurd ⟨fun _ => by omega, fun _ => hq9⟩ w3
      · rw [if_neg e, d5 z hz, (gq_addO_df p s q z (Or.inl e)).2]
