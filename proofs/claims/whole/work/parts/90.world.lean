/-! the world at the law's loop, by program -/
def zj_ad (ak : Nat) (u : Nat × (Nat × Nat × Nat × Nat × Nat × Nat × Nat × (Nat → Nat) × (Nat → Nat)) × Nat × (Nat × Nat × Nat × Nat × Nat × Nat × Nat × Nat × Nat × Nat × Nat × Nat × Nat × (Nat → Nat)) × Nat × (Nat × Nat × Nat × Nat × Nat) × Nat × (Nat × Nat × Nat × (Nat → Nat)) × Nat × (Nat × Nat × Nat × (Nat → Nat))) (mo : Nat) (v : Nat × Nat × Nat × Nat × Nat × Nat × Nat × Nat × Nat × Nat × Nat × Nat × Nat × (Nat → Int32)) (out : Nat) : Nat → Nat → Nat := fun b => match b with
  | 0 => fun _ => ak
  | 1 => fun _ => u.1
  | 2 => fun _ => u.2.1.1
  | 3 => fun _ => u.2.1.2.1
  | 4 => fun _ => u.2.1.2.2.1
  | 5 => fun _ => u.2.1.2.2.2.1
  | 6 => u.2.1.2.2.2.2.2.2.2.1
  | 7 => fun _ => u.2.1.2.2.2.2.1
  | 8 => u.2.1.2.2.2.2.2.2.2.2
  | 9 => fun _ => u.2.1.2.2.2.2.2.1
  | 10 => fun _ => u.2.1.2.2.2.2.2.2.1
  | 11 => fun _ => u.2.2.1
  | 12 => fun _ => u.2.2.2.1.1
  | 13 => fun _ => u.2.2.2.1.2.1
  | 14 => u.2.2.2.1.2.2.2.2.2.2.2.2.2.2.2.2.2
  | 15 => fun _ => u.2.2.2.1.2.2.1
  | 16 => fun _ => u.2.2.2.1.2.2.2.1
  | 17 => fun _ => u.2.2.2.1.2.2.2.2.1
  | 18 => fun j => [u.2.2.2.1.2.2.2.2.2.1, u.2.2.2.1.2.2.2.2.2.2.2.1, u.2.2.2.1.2.2.2.2.2.2.2.2.2.1, u.2.2.2.1.2.2.2.2.2.2.2.2.2.2.2.1, u.2.2.2.2.2.1.2.2.2.1].getD j 0
  | 19 => fun j => [u.2.2.2.1.2.2.2.2.2.2.1, u.2.2.2.1.2.2.2.2.2.2.2.2.1, u.2.2.2.1.2.2.2.2.2.2.2.2.2.2.1, u.2.2.2.1.2.2.2.2.2.2.2.2.2.2.2.2.1, u.2.2.2.2.2.1.2.2.2.2].getD j 0
  | 20 => fun _ => u.2.2.2.2.1
  | 21 => fun _ => u.2.2.2.2.2.1.1
  | 22 => fun _ => u.2.2.2.2.2.1.2.1
  | 23 => fun _ => u.2.2.2.2.2.1.2.2.1
  | 24 => fun j => [u.2.2.2.2.2.2.1, u.2.2.2.2.2.2.2.2.1].getD j 0
  | 25 => fun j => [u.2.2.2.2.2.2.2.1.1, u.2.2.2.2.2.2.2.2.2.1].getD j 0
  | 26 => fun j => if j < 8 then u.2.2.2.2.2.2.2.1.2.2.2 j else u.2.2.2.2.2.2.2.2.2.2.2.2 (j - 8)
  | 27 => fun j => [u.2.2.2.2.2.2.2.1.2.1, u.2.2.2.2.2.2.2.2.2.2.1].getD j 0
  | 28 => fun j => [u.2.2.2.2.2.2.2.1.2.2.1, u.2.2.2.2.2.2.2.2.2.2.2.1].getD j 0
  | 29 => fun _ => out
  | 30 => fun _ => mo
  | 31 => fun _ => v.1
  | 32 => fun _ => v.2.1
  | 33 => fun _ => v.2.2.1
  | 34 => fun _ => v.2.2.2.1
  | 35 => fun _ => v.2.2.2.2.1
  | 36 => fun _ => v.2.2.2.2.2.1
  | 37 => fun _ => v.2.2.2.2.2.2.1
  | 38 => fun _ => v.2.2.2.2.2.2.2.1
  | 39 => fun _ => v.2.2.2.2.2.2.2.2.1
  | 40 => fun _ => v.2.2.2.2.2.2.2.2.2.1
  | 41 => fun _ => v.2.2.2.2.2.2.2.2.2.2.1
  | 42 => fun _ => v.2.2.2.2.2.2.2.2.2.2.2.1
  | _ => fun _ => v.2.2.2.2.2.2.2.2.2.2.2.2.1
def zj_ca (cI cZ cJ cII cJJ cB : ClassId) : Nat → ClassId := fun b => match b with
  | 0 => cI
  | 1 => cI
  | 2 => cI
  | 3 => cI
  | 4 => cI
  | 5 => cII
  | 6 => cI
  | 7 => cII
  | 8 => cI
  | 9 => cI
  | 10 => cI
  | 11 => cI
  | 12 => cI
  | 13 => cJJ
  | 14 => cJ
  | 15 => cI
  | 16 => cI
  | 17 => cB
  | 18 => cI
  | 19 => cI
  | 20 => cI
  | 21 => cZ
  | 22 => cJ
  | 23 => cJ
  | 24 => cI
  | 25 => cII
  | 26 => cI
  | 27 => cI
  | 28 => cI
  | 29 => cJ
  | 30 => cI
  | 31 => cI
  | 32 => cI
  | 33 => cI
  | 34 => cI
  | 35 => cI
  | 36 => cJ
  | 37 => cI
  | 38 => cI
  | 39 => cZ
  | 40 => cI
  | 41 => cI
  | 42 => cI
  | _ => cZ
def zj_mu (f : Nat → Int32) : za_M := (fun b j => match b with
  | 24 => (match j with
    | 1 => fun i => (match i with
      | 4 => 1
      | _ => 0)
    | _ => fun _ => 0)
  | 33 => f
  | _ => fun _ => 0, fun _ _ _ => 0)
def zj_posX : List (Nat × Nat) := [(0, 0), (1, 0), (2, 0), (3, 0), (4, 0), (5, 0), (7, 0), (9, 0), (10, 0), (11, 0), (12, 0), (13, 0), (15, 0), (16, 0), (17, 0), (18, 0), (19, 0), (18, 1), (19, 1), (18, 2), (19, 2), (18, 3), (19, 3), (20, 0), (21, 0), (22, 0), (23, 0), (18, 4), (19, 4), (24, 0), (25, 0), (27, 0), (28, 0), (24, 1), (25, 1), (27, 1), (28, 1), (30, 0), (31, 0), (32, 0), (33, 0), (34, 0), (35, 0), (36, 0), (37, 0), (38, 0), (39, 0), (40, 0), (41, 0), (42, 0), (43, 0), (29, 0)]
def zj_posY : List (Nat × Nat) := [(6, 0), (6, 1), (6, 2), (6, 3), (6, 4), (6, 5), (6, 6), (6, 7), (6, 8), (6, 9), (6, 10), (6, 11), (6, 12), (6, 13), (6, 14), (6, 15), (8, 0), (8, 1), (8, 2), (8, 3), (8, 4), (8, 5), (8, 6), (8, 7), (8, 8), (8, 9), (8, 10), (8, 11), (8, 12), (8, 13), (8, 14), (8, 15), (14, 0), (14, 1), (14, 2), (14, 3), (14, 4), (14, 5), (14, 6), (14, 7), (26, 0), (26, 1), (26, 2), (26, 3), (26, 4), (26, 5), (26, 6), (26, 7), (26, 8), (26, 9), (26, 10), (26, 11), (26, 12), (26, 13), (26, 14), (26, 15)]
def zj_F (cI cZ cJ cII cJJ cB : ClassId) (ak : Nat) (u : Nat × (Nat × Nat × Nat × Nat × Nat × Nat × Nat × (Nat → Nat) × (Nat → Nat)) × Nat × (Nat × Nat × Nat × Nat × Nat × Nat × Nat × Nat × Nat × Nat × Nat × Nat × Nat × (Nat → Nat)) × Nat × (Nat × Nat × Nat × Nat × Nat) × Nat × (Nat × Nat × Nat × (Nat → Nat)) × Nat × (Nat × Nat × Nat × (Nat → Nat))) (mo : Nat) (v : Nat × Nat × Nat × Nat × Nat × Nat × Nat × Nat × Nat × Nat × Nat × Nat × Nat × (Nat → Int32)) (out : Nat) (ν : za_M) : Nat × Nat → Nat × va_E := fun q => (zj_ad ak u mo v out q.1 q.2, za_en zt_Λ (zj_ad ak u mo v out) (zj_ca cI cZ cJ cII cJJ cB) ν q.1 q.2)
theorem zj_pos_all : ∀ q ∈ za_ps zt_cn zt_Λ.length, q ∈ zj_posX ++ zj_posY := by decide +kernel
theorem zj_pos_nd : (za_ps zt_cn zt_Λ.length).Nodup := by decide +kernel
set_option maxHeartbeats 8000000 in
set_option maxRecDepth 100000 in
theorem zj_world {D : va_G} {A : Nat → Prop} {H0 H : Heap} {locs : List Loc} {cI cZ cJ cII cJJ cB : ClassId} (ak : Nat) (u : Nat × (Nat × Nat × Nat × Nat × Nat × Nat × Nat × (Nat → Nat) × (Nat → Nat)) × Nat × (Nat × Nat × Nat × Nat × Nat × Nat × Nat × Nat × Nat × Nat × Nat × Nat × Nat × (Nat → Nat)) × Nat × (Nat × Nat × Nat × Nat × Nat) × Nat × (Nat × Nat × Nat × (Nat → Nat)) × Nat × (Nat × Nat × Nat × (Nat → Nat))) (mo : Nat) (v : Nat × Nat × Nat × Nat × Nat × Nat × Nat × Nat × Nat × Nat × Nat × Nat × Nat × (Nat → Int32)) (out : Nat) (hw : zj_w D A H0 (((([] ++ zj_W1_Kinds cI cZ cJ cII cJJ cB ak u) ++ zj_W1_Model cI cZ cJ cII cJJ cB mo v) ++ [(out, .inl (cJ, 1, .inr (.inl fun _ => 0)))]) ++ ((([] ++ zj_W2_Kinds cI cZ cJ cII cJJ cB ak u) ++ zj_W2_Model cI cZ cJ cII cJJ cB mo v))) H locs) : zj_w D A H0 ((zj_posX ++ zj_posY).map (zj_F cI cZ cJ cII cJJ cB ak u mo v out (zj_mu v.2.2.2.2.2.2.2.2.2.2.2.2.2))) H locs := by
  have hw := zj_chq hw 14 (g := fun i => some (zj_ad ak u mo v out 18 (za_ix 0 4 i))) rfl (fun i hi => by match i, hi with | 0, _ => rfl | 1, _ => rfl | 2, _ => rfl | 3, _ => rfl)
  have hw := zj_chq hw 30 (g := fun i => some (zj_ad ak u mo v out 26 (za_ix 0 8 i))) rfl (fun i hi => by match i, hi with | 0, _ => rfl | 1, _ => rfl | 2, _ => rfl | 3, _ => rfl | 4, _ => rfl | 5, _ => rfl | 6, _ => rfl | 7, _ => rfl)
  have hw := zj_chq hw 34 (g := fun i => some (zj_ad ak u mo v out 26 (za_ix 1 8 i))) rfl (fun i hi => by match i, hi with | 0, _ => rfl | 1, _ => rfl | 2, _ => rfl | 3, _ => rfl | 4, _ => rfl | 5, _ => rfl | 6, _ => rfl | 7, _ => rfl)
  rw [List.map_append]
  exact hw
