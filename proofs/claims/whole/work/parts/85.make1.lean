/-! constructors, by program -/
def zj_W1_Board (cI cZ cJ cII cJJ cB : ClassId) (h0 : Nat) (u : Nat) : va_W := [(h0, .inr (0, [.ref u, .int 0])), (u, .inl (cI, 32, .inl fun _ => 0))]
def zj_W2_Board (cI cZ cJ cII cJJ cB : ClassId) (h0 : Nat) (u : Nat) : va_W := []
set_option maxHeartbeats 8000000 in
set_option maxRecDepth 100000 in
theorem zj_Board {l : Launch} {D : va_G} {cI cZ cJ cII cJJ cB : ClassId}  (h0 : Nat) : zj_Ct l D (zj_tys cI cZ cJ cII cJJ cB) ⟨"AttributeKinds$Board", "<init>", "()V"⟩ prog_2_method_1_code 1 1 1 32 [] h0 0 [.null, .int 0] (zj_W1_Board cI cZ cJ cII cJJ cB h0) (zj_W2_Board cI cZ cJ cII cJJ cB h0) := by
  refine zj_ofW (by decide) rfl (Nat.le_of_ble_eq_true rfl) (fun p e s m below meth c A Q ls C0 hin fin hl hw => ?_)
  have hl : lv_has ls 1 [(0, .ref h0)] := hl
  refine lv_aload_n (k := 0) (i := 0) C0.1 C0.2.1 (by decide +kernel) rfl (lv_at hl 0 rfl) ?_
  refine zj_obj C0 zv_ml_B_3 zv_im_Obj zv_cd_Obj hl.1 (by decide +kernel) (Nat.le_of_ble_eq_true rfl) (Nat.le_of_ble_eq_true rfl) ?_
  refine lv_aload_n (k := 0) (i := 0) C0.1 C0.2.1 (by decide +kernel) rfl (lv_at hl 0 rfl) ?_
  refine lv_bipush (n := 32) (v := 32) C0.1 C0.2.1 (by decide +kernel) (by decide) ?_
  refine zj_newa C0 hw (atype := .int) 0 rfl rfl zv_ac_int (32, .inl fun _ => 0) (fun _ => rfl) (by decide) rfl (by decide +kernel) (Nat.le_of_ble_eq_true rfl) (Nat.le_of_ble_eq_true rfl) (by decide +kernel) (fun a1 H hw => ?_)
  have hw : zj_w D A s.heap ([(h0, .inr (0, [.null, .int 0])), (a1, .inl (cI, 32, .inl fun _ => 0))] ++ []) H [] := hw
  refine zj_put C0 hin hw (index := 9) (v := .ref a1) 0 0 rfl rfl (Nat.le_of_ble_eq_true rfl) zv_fl_B_9 rfl rfl rfl (Nat.le_of_ble_eq_true rfl) (by decide +kernel) (fun H locs hw => ?_)
  have hw : zj_w D A s.heap ([(h0, .inr (0, [.ref a1, .int 0])), (a1, .inl (cI, 32, .inl fun _ => 0))] ++ []) H locs := hw
  refine lv_aload_n (k := 0) (i := 0) C0.1 C0.2.1 (by decide +kernel) rfl (lv_at hl 0 rfl) ?_
  refine lv_iconst (n := 0) (v := 0) C0.1 C0.2.1 (by decide +kernel) (by decide) ?_
  refine zj_put C0 hin hw (index := 15) (v := .int 0) 1 0 rfl rfl (Nat.le_of_ble_eq_true rfl) zv_fl_B_15 rfl rfl rfl (Nat.le_of_ble_eq_true rfl) (by decide +kernel) (fun H locs hw => ?_)
  have hw : zj_w D A s.heap ([(h0, .inr (0, [.ref a1, .int 0])), (a1, .inl (cI, 32, .inl fun _ => 0))] ++ []) H locs := hw
  exact fin (a1) H locs _ _ _ _ (Nat.le_of_ble_eq_true rfl) (Nat.le_of_ble_eq_true rfl) (by decide +kernel) hw
def zj_W1_Grammar (cI cZ cJ cII cJJ cB : ClassId) (h0 : Nat) (u : Nat × Nat × Nat × Nat × Nat × Nat × Nat × (Nat → Nat) × (Nat → Nat)) : va_W := [(h0, .inr (1, [.int 0, .ref u.1, .ref u.2.1, .int 0, .ref u.2.2.1, .ref u.2.2.2.1, .ref u.2.2.2.2.1, .ref u.2.2.2.2.2.1, .ref u.2.2.2.2.2.2.1])), (u.1, .inl (cI, 8, .inl fun _ => 0)), (u.2.1, .inl (cI, 8, .inl fun _ => 0)), (u.2.2.1, .inl (cI, 16, .inl fun _ => 0)), (u.2.2.2.1, .inl (cII, 16, .inr (.inr (.inr (.inr fun i => some (u.2.2.2.2.2.2.2.1 i)))))), (u.2.2.2.2.1, .inl (cII, 16, .inr (.inr (.inr (.inr fun i => some (u.2.2.2.2.2.2.2.2 i)))))), (u.2.2.2.2.2.1, .inl (cI, 16, .inl fun _ => 0)), (u.2.2.2.2.2.2.1, .inl (cI, 16, .inl fun _ => 0))]
def zj_W2_Grammar (cI cZ cJ cII cJJ cB : ClassId) (h0 : Nat) (u : Nat × Nat × Nat × Nat × Nat × Nat × Nat × (Nat → Nat) × (Nat → Nat)) : va_W := (([] ++ zj_rows 16 u.2.2.2.2.2.2.2.1 (.inl (cI, 4, .inl fun _ => 0))) ++ zj_rows 16 u.2.2.2.2.2.2.2.2 (.inl (cI, 32, .inl fun _ => 0)))
set_option maxHeartbeats 8000000 in
set_option maxRecDepth 100000 in
theorem zj_Grammar {l : Launch} {D : va_G} {cI cZ cJ cII cJJ cB : ClassId}  (h0 : Nat) : zj_Ct l D (zj_tys cI cZ cJ cII cJJ cB) ⟨"AttributeKinds$Grammar", "<init>", "()V"⟩ prog_3_method_1_code 1 1 39 672 [] h0 1 [.int 0, .null, .null, .int 0, .null, .null, .null, .null, .null] (zj_W1_Grammar cI cZ cJ cII cJJ cB h0) (zj_W2_Grammar cI cZ cJ cII cJJ cB h0) := by
  refine zj_ofW (by decide) rfl (Nat.le_of_ble_eq_true rfl) (fun p e s m below meth c A Q ls C0 hin fin hl hw => ?_)
  have hl : lv_has ls 1 [(0, .ref h0)] := hl
  refine lv_aload_n (k := 0) (i := 0) C0.1 C0.2.1 (by decide +kernel) rfl (lv_at hl 0 rfl) ?_
  refine zj_obj C0 zv_ml_G_3 zv_im_Obj zv_cd_Obj hl.1 (by decide +kernel) (Nat.le_of_ble_eq_true rfl) (Nat.le_of_ble_eq_true rfl) ?_
  refine lv_aload_n (k := 0) (i := 0) C0.1 C0.2.1 (by decide +kernel) rfl (lv_at hl 0 rfl) ?_
  refine lv_iconst (n := 0) (v := 0) C0.1 C0.2.1 (by decide +kernel) (by decide) ?_
  refine zj_put C0 hin hw (index := 9) (v := .int 0) 0 0 rfl rfl (Nat.le_of_ble_eq_true rfl) zv_fl_G_9 rfl rfl rfl (Nat.le_of_ble_eq_true rfl) (by decide +kernel) (fun H locs hw => ?_)
  have hw : zj_w D A s.heap ([(h0, .inr (1, [.int 0, .null, .null, .int 0, .null, .null, .null, .null, .null]))] ++ []) H locs := hw
  refine lv_aload_n (k := 0) (i := 0) C0.1 C0.2.1 (by decide +kernel) rfl (lv_at hl 0 rfl) ?_
  refine lv_bipush (n := 8) (v := 8) C0.1 C0.2.1 (by decide +kernel) (by decide) ?_
  refine zj_newa C0 hw (atype := .int) 0 rfl rfl zv_ac_int (8, .inl fun _ => 0) (fun _ => rfl) (by decide) rfl (by decide +kernel) (Nat.le_of_ble_eq_true rfl) (Nat.le_of_ble_eq_true rfl) (by decide +kernel) (fun a1 H hw => ?_)
  have hw : zj_w D A s.heap ([(h0, .inr (1, [.int 0, .null, .null, .int 0, .null, .null, .null, .null, .null])), (a1, .inl (cI, 8, .inl fun _ => 0))] ++ []) H locs := hw
  refine zj_put C0 hin hw (index := 15) (v := .ref a1) 1 0 rfl rfl (Nat.le_of_ble_eq_true rfl) zv_fl_G_15 rfl rfl rfl (Nat.le_of_ble_eq_true rfl) (by decide +kernel) (fun H locs hw => ?_)
  have hw : zj_w D A s.heap ([(h0, .inr (1, [.int 0, .ref a1, .null, .int 0, .null, .null, .null, .null, .null])), (a1, .inl (cI, 8, .inl fun _ => 0))] ++ []) H locs := hw
  refine lv_aload_n (k := 0) (i := 0) C0.1 C0.2.1 (by decide +kernel) rfl (lv_at hl 0 rfl) ?_
  refine lv_bipush (n := 8) (v := 8) C0.1 C0.2.1 (by decide +kernel) (by decide) ?_
  refine zj_newa C0 hw (atype := .int) 0 rfl rfl zv_ac_int (8, .inl fun _ => 0) (fun _ => rfl) (by decide) rfl (by decide +kernel) (Nat.le_of_ble_eq_true rfl) (Nat.le_of_ble_eq_true rfl) (by decide +kernel) (fun a2 H hw => ?_)
  have hw : zj_w D A s.heap ([(h0, .inr (1, [.int 0, .ref a1, .null, .int 0, .null, .null, .null, .null, .null])), (a1, .inl (cI, 8, .inl fun _ => 0)), (a2, .inl (cI, 8, .inl fun _ => 0))] ++ []) H locs := hw
  refine zj_put C0 hin hw (index := 19) (v := .ref a2) 2 0 rfl rfl (Nat.le_of_ble_eq_true rfl) zv_fl_G_19 rfl rfl rfl (Nat.le_of_ble_eq_true rfl) (by decide +kernel) (fun H locs hw => ?_)
  have hw : zj_w D A s.heap ([(h0, .inr (1, [.int 0, .ref a1, .ref a2, .int 0, .null, .null, .null, .null, .null])), (a1, .inl (cI, 8, .inl fun _ => 0)), (a2, .inl (cI, 8, .inl fun _ => 0))] ++ []) H locs := hw
  refine lv_aload_n (k := 0) (i := 0) C0.1 C0.2.1 (by decide +kernel) rfl (lv_at hl 0 rfl) ?_
  refine lv_iconst (n := 0) (v := 0) C0.1 C0.2.1 (by decide +kernel) (by decide) ?_
  refine zj_put C0 hin hw (index := 22) (v := .int 0) 3 0 rfl rfl (Nat.le_of_ble_eq_true rfl) zv_fl_G_22 rfl rfl rfl (Nat.le_of_ble_eq_true rfl) (by decide +kernel) (fun H locs hw => ?_)
  have hw : zj_w D A s.heap ([(h0, .inr (1, [.int 0, .ref a1, .ref a2, .int 0, .null, .null, .null, .null, .null])), (a1, .inl (cI, 8, .inl fun _ => 0)), (a2, .inl (cI, 8, .inl fun _ => 0))] ++ []) H locs := hw
  refine lv_aload_n (k := 0) (i := 0) C0.1 C0.2.1 (by decide +kernel) rfl (lv_at hl 0 rfl) ?_
  refine lv_bipush (n := 16) (v := 16) C0.1 C0.2.1 (by decide +kernel) (by decide) ?_
  refine zj_newa C0 hw (atype := .int) 0 rfl rfl zv_ac_int (16, .inl fun _ => 0) (fun _ => rfl) (by decide) rfl (by decide +kernel) (Nat.le_of_ble_eq_true rfl) (Nat.le_of_ble_eq_true rfl) (by decide +kernel) (fun a3 H hw => ?_)
  have hw : zj_w D A s.heap ([(h0, .inr (1, [.int 0, .ref a1, .ref a2, .int 0, .null, .null, .null, .null, .null])), (a1, .inl (cI, 8, .inl fun _ => 0)), (a2, .inl (cI, 8, .inl fun _ => 0)), (a3, .inl (cI, 16, .inl fun _ => 0))] ++ []) H locs := hw
  refine zj_put C0 hin hw (index := 25) (v := .ref a3) 4 0 rfl rfl (Nat.le_of_ble_eq_true rfl) zv_fl_G_25 rfl rfl rfl (Nat.le_of_ble_eq_true rfl) (by decide +kernel) (fun H locs hw => ?_)
  have hw : zj_w D A s.heap ([(h0, .inr (1, [.int 0, .ref a1, .ref a2, .int 0, .ref a3, .null, .null, .null, .null])), (a1, .inl (cI, 8, .inl fun _ => 0)), (a2, .inl (cI, 8, .inl fun _ => 0)), (a3, .inl (cI, 16, .inl fun _ => 0))] ++ []) H locs := hw
  refine lv_aload_n (k := 0) (i := 0) C0.1 C0.2.1 (by decide +kernel) rfl (lv_at hl 0 rfl) ?_
  refine lv_bipush (n := 16) (v := 16) C0.1 C0.2.1 (by decide +kernel) (by decide) ?_
  refine lv_iconst (n := 4) (v := 4) C0.1 C0.2.1 (by decide +kernel) (by decide) ?_
  refine zj_mna C0 hw (index := 28) (ty := .int) (cI := cI) 3 rfl (C0.2.2.2.2.1.2 0 _ rfl).2 zv_cl_G_28 (by unfold zj_OT; simp) zv_ac_int (4, .inl fun _ => 0) (by decide) (by decide) rfl rfl (by decide +kernel) (by decide +kernel) (by decide +kernel) rfl rfl (Nat.le_of_ble_eq_true rfl) (Nat.le_of_ble_eq_true rfl) (fun c => zj_innI c 4) (by decide +kernel) (fun a4 r5 H hw => ?_)
  have hw : zj_w D A s.heap ([(h0, .inr (1, [.int 0, .ref a1, .ref a2, .int 0, .ref a3, .null, .null, .null, .null])), (a1, .inl (cI, 8, .inl fun _ => 0)), (a2, .inl (cI, 8, .inl fun _ => 0)), (a3, .inl (cI, 16, .inl fun _ => 0)), (a4, .inl (cII, 16, .inr (.inr (.inr (.inr fun i => some (r5 i))))))] ++ ([] ++ zj_rows 16 r5 (.inl (cI, 4, .inl fun _ => 0)))) H locs := hw
  refine zj_put C0 hin hw (index := 30) (v := .ref a4) 5 0 rfl rfl (Nat.le_of_ble_eq_true rfl) zv_fl_G_30 rfl rfl rfl (Nat.le_of_ble_eq_true rfl) (by decide +kernel) (fun H locs hw => ?_)
  have hw : zj_w D A s.heap ([(h0, .inr (1, [.int 0, .ref a1, .ref a2, .int 0, .ref a3, .ref a4, .null, .null, .null])), (a1, .inl (cI, 8, .inl fun _ => 0)), (a2, .inl (cI, 8, .inl fun _ => 0)), (a3, .inl (cI, 16, .inl fun _ => 0)), (a4, .inl (cII, 16, .inr (.inr (.inr (.inr fun i => some (r5 i))))))] ++ ([] ++ zj_rows 16 r5 (.inl (cI, 4, .inl fun _ => 0)))) H locs := hw
  refine lv_aload_n (k := 0) (i := 0) C0.1 C0.2.1 (by decide +kernel) rfl (lv_at hl 0 rfl) ?_
  refine lv_bipush (n := 16) (v := 16) C0.1 C0.2.1 (by decide +kernel) (by decide) ?_
  refine lv_bipush (n := 32) (v := 32) C0.1 C0.2.1 (by decide +kernel) (by decide) ?_
  refine zj_mna C0 hw (index := 28) (ty := .int) (cI := cI) 3 rfl (C0.2.2.2.2.1.2 0 _ rfl).2 zv_cl_G_28 (by unfold zj_OT; simp) zv_ac_int (32, .inl fun _ => 0) (by decide) (by decide) rfl rfl (by decide +kernel) (by decide +kernel) (by decide +kernel) rfl rfl (Nat.le_of_ble_eq_true rfl) (Nat.le_of_ble_eq_true rfl) (fun c => zj_innI c 32) (by decide +kernel) (fun a6 r7 H hw => ?_)
  have hw : zj_w D A s.heap ([(h0, .inr (1, [.int 0, .ref a1, .ref a2, .int 0, .ref a3, .ref a4, .null, .null, .null])), (a1, .inl (cI, 8, .inl fun _ => 0)), (a2, .inl (cI, 8, .inl fun _ => 0)), (a3, .inl (cI, 16, .inl fun _ => 0)), (a4, .inl (cII, 16, .inr (.inr (.inr (.inr fun i => some (r5 i)))))), (a6, .inl (cII, 16, .inr (.inr (.inr (.inr fun i => some (r7 i))))))] ++ (([] ++ zj_rows 16 r5 (.inl (cI, 4, .inl fun _ => 0))) ++ zj_rows 16 r7 (.inl (cI, 32, .inl fun _ => 0)))) H locs := hw
  refine zj_put C0 hin hw (index := 33) (v := .ref a6) 6 0 rfl rfl (Nat.le_of_ble_eq_true rfl) zv_fl_G_33 rfl rfl rfl (Nat.le_of_ble_eq_true rfl) (by decide +kernel) (fun H locs hw => ?_)
  have hw : zj_w D A s.heap ([(h0, .inr (1, [.int 0, .ref a1, .ref a2, .int 0, .ref a3, .ref a4, .ref a6, .null, .null])), (a1, .inl (cI, 8, .inl fun _ => 0)), (a2, .inl (cI, 8, .inl fun _ => 0)), (a3, .inl (cI, 16, .inl fun _ => 0)), (a4, .inl (cII, 16, .inr (.inr (.inr (.inr fun i => some (r5 i)))))), (a6, .inl (cII, 16, .inr (.inr (.inr (.inr fun i => some (r7 i))))))] ++ (([] ++ zj_rows 16 r5 (.inl (cI, 4, .inl fun _ => 0))) ++ zj_rows 16 r7 (.inl (cI, 32, .inl fun _ => 0)))) H locs := hw
  refine lv_aload_n (k := 0) (i := 0) C0.1 C0.2.1 (by decide +kernel) rfl (lv_at hl 0 rfl) ?_
  refine lv_bipush (n := 16) (v := 16) C0.1 C0.2.1 (by decide +kernel) (by decide) ?_
  refine zj_newa C0 hw (atype := .int) 0 rfl rfl zv_ac_int (16, .inl fun _ => 0) (fun _ => rfl) (by decide) rfl (by decide +kernel) (Nat.le_of_ble_eq_true rfl) (Nat.le_of_ble_eq_true rfl) (by decide +kernel) (fun a8 H hw => ?_)
  have hw : zj_w D A s.heap ([(h0, .inr (1, [.int 0, .ref a1, .ref a2, .int 0, .ref a3, .ref a4, .ref a6, .null, .null])), (a1, .inl (cI, 8, .inl fun _ => 0)), (a2, .inl (cI, 8, .inl fun _ => 0)), (a3, .inl (cI, 16, .inl fun _ => 0)), (a4, .inl (cII, 16, .inr (.inr (.inr (.inr fun i => some (r5 i)))))), (a6, .inl (cII, 16, .inr (.inr (.inr (.inr fun i => some (r7 i)))))), (a8, .inl (cI, 16, .inl fun _ => 0))] ++ (([] ++ zj_rows 16 r5 (.inl (cI, 4, .inl fun _ => 0))) ++ zj_rows 16 r7 (.inl (cI, 32, .inl fun _ => 0)))) H locs := hw
  refine zj_put C0 hin hw (index := 36) (v := .ref a8) 7 0 rfl rfl (Nat.le_of_ble_eq_true rfl) zv_fl_G_36 rfl rfl rfl (Nat.le_of_ble_eq_true rfl) (by decide +kernel) (fun H locs hw => ?_)
  have hw : zj_w D A s.heap ([(h0, .inr (1, [.int 0, .ref a1, .ref a2, .int 0, .ref a3, .ref a4, .ref a6, .ref a8, .null])), (a1, .inl (cI, 8, .inl fun _ => 0)), (a2, .inl (cI, 8, .inl fun _ => 0)), (a3, .inl (cI, 16, .inl fun _ => 0)), (a4, .inl (cII, 16, .inr (.inr (.inr (.inr fun i => some (r5 i)))))), (a6, .inl (cII, 16, .inr (.inr (.inr (.inr fun i => some (r7 i)))))), (a8, .inl (cI, 16, .inl fun _ => 0))] ++ (([] ++ zj_rows 16 r5 (.inl (cI, 4, .inl fun _ => 0))) ++ zj_rows 16 r7 (.inl (cI, 32, .inl fun _ => 0)))) H locs := hw
  refine lv_aload_n (k := 0) (i := 0) C0.1 C0.2.1 (by decide +kernel) rfl (lv_at hl 0 rfl) ?_
  refine lv_bipush (n := 16) (v := 16) C0.1 C0.2.1 (by decide +kernel) (by decide) ?_
  refine zj_newa C0 hw (atype := .int) 0 rfl rfl zv_ac_int (16, .inl fun _ => 0) (fun _ => rfl) (by decide) rfl (by decide +kernel) (Nat.le_of_ble_eq_true rfl) (Nat.le_of_ble_eq_true rfl) (by decide +kernel) (fun a9 H hw => ?_)
  have hw : zj_w D A s.heap ([(h0, .inr (1, [.int 0, .ref a1, .ref a2, .int 0, .ref a3, .ref a4, .ref a6, .ref a8, .null])), (a1, .inl (cI, 8, .inl fun _ => 0)), (a2, .inl (cI, 8, .inl fun _ => 0)), (a3, .inl (cI, 16, .inl fun _ => 0)), (a4, .inl (cII, 16, .inr (.inr (.inr (.inr fun i => some (r5 i)))))), (a6, .inl (cII, 16, .inr (.inr (.inr (.inr fun i => some (r7 i)))))), (a8, .inl (cI, 16, .inl fun _ => 0)), (a9, .inl (cI, 16, .inl fun _ => 0))] ++ (([] ++ zj_rows 16 r5 (.inl (cI, 4, .inl fun _ => 0))) ++ zj_rows 16 r7 (.inl (cI, 32, .inl fun _ => 0)))) H locs := hw
  refine zj_put C0 hin hw (index := 39) (v := .ref a9) 8 0 rfl rfl (Nat.le_of_ble_eq_true rfl) zv_fl_G_39 rfl rfl rfl (Nat.le_of_ble_eq_true rfl) (by decide +kernel) (fun H locs hw => ?_)
  have hw : zj_w D A s.heap ([(h0, .inr (1, [.int 0, .ref a1, .ref a2, .int 0, .ref a3, .ref a4, .ref a6, .ref a8, .ref a9])), (a1, .inl (cI, 8, .inl fun _ => 0)), (a2, .inl (cI, 8, .inl fun _ => 0)), (a3, .inl (cI, 16, .inl fun _ => 0)), (a4, .inl (cII, 16, .inr (.inr (.inr (.inr fun i => some (r5 i)))))), (a6, .inl (cII, 16, .inr (.inr (.inr (.inr fun i => some (r7 i)))))), (a8, .inl (cI, 16, .inl fun _ => 0)), (a9, .inl (cI, 16, .inl fun _ => 0))] ++ (([] ++ zj_rows 16 r5 (.inl (cI, 4, .inl fun _ => 0))) ++ zj_rows 16 r7 (.inl (cI, 32, .inl fun _ => 0)))) H locs := hw
  exact fin (a1, a2, a3, a4, a6, a8, a9, r5, r7) H locs _ _ _ _ (Nat.le_of_ble_eq_true rfl) (Nat.le_of_ble_eq_true rfl) (by decide +kernel) hw
def zj_W1_Numbering (cI cZ cJ cII cJJ cB : ClassId) (x : Int32) (h0 : Nat) (u : Nat × Nat × Nat × (Nat → Nat)) : va_W := [(h0, .inr (2, [.int 0, .int 0, .int 0, .ref u.1, .int x, .ref u.2.1, .ref u.2.2.1])), (u.1, .inl (cII, 8, .inr (.inr (.inr (.inr fun i => some (u.2.2.2 i)))))), (u.2.1, .inl (cI, 8, .inl fun _ => 0)), (u.2.2.1, .inl (cI, 8, .inl fun _ => 0))]
def zj_W2_Numbering (cI cZ cJ cII cJJ cB : ClassId) (x : Int32) (h0 : Nat) (u : Nat × Nat × Nat × (Nat → Nat)) : va_W := ([] ++ zj_rows 8 u.2.2.2 (.inl (cI, 6, .inl fun _ => 0)))
set_option maxHeartbeats 8000000 in
set_option maxRecDepth 100000 in
theorem zj_Numbering {l : Launch} {D : va_G} {cI cZ cJ cII cJJ cB : ClassId} (x : Int32) (hx1 : narrow .boolean (.int x) = .int x) (hx2 : fits .boolean (.int x) = true) (h0 : Nat) : zj_Ct l D (zj_tys cI cZ cJ cII cJJ cB) ⟨"AttributeKinds$Numbering", "<init>", "(Z)V"⟩ prog_4_method_1_code 2 1 11 72 [.int x] h0 2 [.int 0, .int 0, .int 0, .null, .int 0, .null, .null] (zj_W1_Numbering cI cZ cJ cII cJJ cB x h0) (zj_W2_Numbering cI cZ cJ cII cJJ cB x h0) := by
  refine zj_ofW (by decide) rfl (Nat.le_of_ble_eq_true rfl) (fun p e s m below meth c A Q ls C0 hin fin hl hw => ?_)
  have hl : lv_has ls 2 [(0, .ref h0), (1, .int x)] := hl
  refine lv_aload_n (k := 0) (i := 0) C0.1 C0.2.1 (by decide +kernel) rfl (lv_at hl 0 rfl) ?_
  refine zj_obj C0 zv_ml_N_3 zv_im_Obj zv_cd_Obj hl.1 (by decide +kernel) (Nat.le_of_ble_eq_true rfl) (Nat.le_of_ble_eq_true rfl) ?_
  refine lv_aload_n (k := 0) (i := 0) C0.1 C0.2.1 (by decide +kernel) rfl (lv_at hl 0 rfl) ?_
  refine lv_iconst (n := 0) (v := 0) C0.1 C0.2.1 (by decide +kernel) (by decide) ?_
  refine zj_put C0 hin hw (index := 9) (v := .int 0) 0 0 rfl rfl (Nat.le_of_ble_eq_true rfl) zv_fl_N_9 rfl rfl rfl (Nat.le_of_ble_eq_true rfl) (by decide +kernel) (fun H locs hw => ?_)
  have hw : zj_w D A s.heap ([(h0, .inr (2, [.int 0, .int 0, .int 0, .null, .int 0, .null, .null]))] ++ []) H locs := hw
  refine lv_aload_n (k := 0) (i := 0) C0.1 C0.2.1 (by decide +kernel) rfl (lv_at hl 0 rfl) ?_
  refine lv_iconst (n := 0) (v := 0) C0.1 C0.2.1 (by decide +kernel) (by decide) ?_
  refine zj_put C0 hin hw (index := 15) (v := .int 0) 1 0 rfl rfl (Nat.le_of_ble_eq_true rfl) zv_fl_N_15 rfl rfl rfl (Nat.le_of_ble_eq_true rfl) (by decide +kernel) (fun H locs hw => ?_)
  have hw : zj_w D A s.heap ([(h0, .inr (2, [.int 0, .int 0, .int 0, .null, .int 0, .null, .null]))] ++ []) H locs := hw
  refine lv_aload_n (k := 0) (i := 0) C0.1 C0.2.1 (by decide +kernel) rfl (lv_at hl 0 rfl) ?_
  refine lv_iconst (n := 0) (v := 0) C0.1 C0.2.1 (by decide +kernel) (by decide) ?_
  refine zj_put C0 hin hw (index := 18) (v := .int 0) 2 0 rfl rfl (Nat.le_of_ble_eq_true rfl) zv_fl_N_18 rfl rfl rfl (Nat.le_of_ble_eq_true rfl) (by decide +kernel) (fun H locs hw => ?_)
  have hw : zj_w D A s.heap ([(h0, .inr (2, [.int 0, .int 0, .int 0, .null, .int 0, .null, .null]))] ++ []) H locs := hw
  refine lv_aload_n (k := 0) (i := 0) C0.1 C0.2.1 (by decide +kernel) rfl (lv_at hl 0 rfl) ?_
  refine lv_bipush (n := 8) (v := 8) C0.1 C0.2.1 (by decide +kernel) (by decide) ?_
  refine lv_bipush (n := 6) (v := 6) C0.1 C0.2.1 (by decide +kernel) (by decide) ?_
  refine zj_mna C0 hw (index := 22) (ty := .int) (cI := cI) 3 rfl (C0.2.2.2.2.1.2 0 _ rfl).2 zv_cl_N_22 (by unfold zj_OT; simp) zv_ac_int (6, .inl fun _ => 0) (by decide) (by decide) rfl rfl (by decide +kernel) (by decide +kernel) (by decide +kernel) rfl rfl (Nat.le_of_ble_eq_true rfl) (Nat.le_of_ble_eq_true rfl) (fun c => zj_innI c 6) (by decide +kernel) (fun a1 r2 H hw => ?_)
  have hw : zj_w D A s.heap ([(h0, .inr (2, [.int 0, .int 0, .int 0, .null, .int 0, .null, .null])), (a1, .inl (cII, 8, .inr (.inr (.inr (.inr fun i => some (r2 i))))))] ++ ([] ++ zj_rows 8 r2 (.inl (cI, 6, .inl fun _ => 0)))) H locs := hw
  refine zj_put C0 hin hw (index := 24) (v := .ref a1) 3 0 rfl rfl (Nat.le_of_ble_eq_true rfl) zv_fl_N_24 rfl rfl rfl (Nat.le_of_ble_eq_true rfl) (by decide +kernel) (fun H locs hw => ?_)
  have hw : zj_w D A s.heap ([(h0, .inr (2, [.int 0, .int 0, .int 0, .ref a1, .int 0, .null, .null])), (a1, .inl (cII, 8, .inr (.inr (.inr (.inr fun i => some (r2 i))))))] ++ ([] ++ zj_rows 8 r2 (.inl (cI, 6, .inl fun _ => 0)))) H locs := hw
  refine lv_aload_n (k := 0) (i := 0) C0.1 C0.2.1 (by decide +kernel) rfl (lv_at hl 0 rfl) ?_
  refine lv_bipush (n := 8) (v := 8) C0.1 C0.2.1 (by decide +kernel) (by decide) ?_
  refine zj_newa C0 hw (atype := .int) 0 rfl rfl zv_ac_int (8, .inl fun _ => 0) (fun _ => rfl) (by decide) rfl (by decide +kernel) (Nat.le_of_ble_eq_true rfl) (Nat.le_of_ble_eq_true rfl) (by decide +kernel) (fun a3 H hw => ?_)
  have hw : zj_w D A s.heap ([(h0, .inr (2, [.int 0, .int 0, .int 0, .ref a1, .int 0, .null, .null])), (a1, .inl (cII, 8, .inr (.inr (.inr (.inr fun i => some (r2 i)))))), (a3, .inl (cI, 8, .inl fun _ => 0))] ++ ([] ++ zj_rows 8 r2 (.inl (cI, 6, .inl fun _ => 0)))) H locs := hw
  refine zj_put C0 hin hw (index := 27) (v := .ref a3) 5 0 rfl rfl (Nat.le_of_ble_eq_true rfl) zv_fl_N_27 rfl rfl rfl (Nat.le_of_ble_eq_true rfl) (by decide +kernel) (fun H locs hw => ?_)
  have hw : zj_w D A s.heap ([(h0, .inr (2, [.int 0, .int 0, .int 0, .ref a1, .int 0, .ref a3, .null])), (a1, .inl (cII, 8, .inr (.inr (.inr (.inr fun i => some (r2 i)))))), (a3, .inl (cI, 8, .inl fun _ => 0))] ++ ([] ++ zj_rows 8 r2 (.inl (cI, 6, .inl fun _ => 0)))) H locs := hw
  refine lv_aload_n (k := 0) (i := 0) C0.1 C0.2.1 (by decide +kernel) rfl (lv_at hl 0 rfl) ?_
  refine lv_bipush (n := 8) (v := 8) C0.1 C0.2.1 (by decide +kernel) (by decide) ?_
  refine zj_newa C0 hw (atype := .int) 0 rfl rfl zv_ac_int (8, .inl fun _ => 0) (fun _ => rfl) (by decide) rfl (by decide +kernel) (Nat.le_of_ble_eq_true rfl) (Nat.le_of_ble_eq_true rfl) (by decide +kernel) (fun a4 H hw => ?_)
  have hw : zj_w D A s.heap ([(h0, .inr (2, [.int 0, .int 0, .int 0, .ref a1, .int 0, .ref a3, .null])), (a1, .inl (cII, 8, .inr (.inr (.inr (.inr fun i => some (r2 i)))))), (a3, .inl (cI, 8, .inl fun _ => 0)), (a4, .inl (cI, 8, .inl fun _ => 0))] ++ ([] ++ zj_rows 8 r2 (.inl (cI, 6, .inl fun _ => 0)))) H locs := hw
  refine zj_put C0 hin hw (index := 31) (v := .ref a4) 6 0 rfl rfl (Nat.le_of_ble_eq_true rfl) zv_fl_N_31 rfl rfl rfl (Nat.le_of_ble_eq_true rfl) (by decide +kernel) (fun H locs hw => ?_)
  have hw : zj_w D A s.heap ([(h0, .inr (2, [.int 0, .int 0, .int 0, .ref a1, .int 0, .ref a3, .ref a4])), (a1, .inl (cII, 8, .inr (.inr (.inr (.inr fun i => some (r2 i)))))), (a3, .inl (cI, 8, .inl fun _ => 0)), (a4, .inl (cI, 8, .inl fun _ => 0))] ++ ([] ++ zj_rows 8 r2 (.inl (cI, 6, .inl fun _ => 0)))) H locs := hw
  refine lv_aload_n (k := 0) (i := 0) C0.1 C0.2.1 (by decide +kernel) rfl (lv_at hl 0 rfl) ?_
  refine lv_iload_n (k := 1) (i := 1) C0.1 C0.2.1 (by decide +kernel) rfl (lv_at hl 1 rfl) ?_
  refine zj_put C0 hin hw (index := 34) (v := .int x) 4 0 rfl rfl (Nat.le_of_ble_eq_true rfl) zv_fl_N_34 rfl hx1 hx2 (Nat.le_of_ble_eq_true rfl) (by decide +kernel) (fun H locs hw => ?_)
  have hw : zj_w D A s.heap ([(h0, .inr (2, [.int 0, .int 0, .int 0, .ref a1, .int x, .ref a3, .ref a4])), (a1, .inl (cII, 8, .inr (.inr (.inr (.inr fun i => some (r2 i)))))), (a3, .inl (cI, 8, .inl fun _ => 0)), (a4, .inl (cI, 8, .inl fun _ => 0))] ++ ([] ++ zj_rows 8 r2 (.inl (cI, 6, .inl fun _ => 0)))) H locs := hw
  exact fin (a1, a3, a4, r2) H locs _ _ _ _ (Nat.le_of_ble_eq_true rfl) (Nat.le_of_ble_eq_true rfl) (by decide +kernel) hw
def zj_W1_Relations (cI cZ cJ cII cJJ cB : ClassId) (h0 : Nat) (u : Nat × Nat × Nat × Nat × Nat) : va_W := [(h0, .inr (3, [.int 0, .int 0, .int 0, .ref u.1, .ref u.2.1, .ref u.2.2.1, .ref u.2.2.2.1])), (u.1, .inl (cZ, 8, .inl fun _ => 0)), (u.2.1, .inl (cJ, 8, .inr (.inl fun _ => 0))), (u.2.2.1, .inl (cJ, 8, .inr (.inl fun _ => 0))), (u.2.2.2.1, .inr (0, [.ref u.2.2.2.2, .int 0])), (u.2.2.2.2, .inl (cI, 32, .inl fun _ => 0))]
def zj_W2_Relations (cI cZ cJ cII cJJ cB : ClassId) (h0 : Nat) (u : Nat × Nat × Nat × Nat × Nat) : va_W := ([] ++ [])
set_option maxHeartbeats 8000000 in
set_option maxRecDepth 100000 in
theorem zj_Relations {l : Launch} {D : va_G} {cI cZ cJ cII cJJ cB : ClassId}  (h0 : Nat) : zj_Ct l D (zj_tys cI cZ cJ cII cJJ cB) ⟨"AttributeKinds$Relations", "<init>", "()V"⟩ prog_5_method_1_code 1 2 5 58 [] h0 3 [.int 0, .int 0, .int 0, .null, .null, .null, .null] (zj_W1_Relations cI cZ cJ cII cJJ cB h0) (zj_W2_Relations cI cZ cJ cII cJJ cB h0) := by
  refine zj_ofW (by decide) rfl (Nat.le_of_ble_eq_true rfl) (fun p e s m below meth c A Q ls C0 hin fin hl hw => ?_)
  have hl : lv_has ls 1 [(0, .ref h0)] := hl
  refine lv_aload_n (k := 0) (i := 0) C0.1 C0.2.1 (by decide +kernel) rfl (lv_at hl 0 rfl) ?_
  refine zj_obj C0 zv_ml_R_3 zv_im_Obj zv_cd_Obj hl.1 (by decide +kernel) (Nat.le_of_ble_eq_true rfl) (Nat.le_of_ble_eq_true rfl) ?_
  refine lv_aload_n (k := 0) (i := 0) C0.1 C0.2.1 (by decide +kernel) rfl (lv_at hl 0 rfl) ?_
  refine lv_iconst (n := 0) (v := 0) C0.1 C0.2.1 (by decide +kernel) (by decide) ?_
  refine zj_put C0 hin hw (index := 9) (v := .int 0) 0 0 rfl rfl (Nat.le_of_ble_eq_true rfl) zv_fl_R_9 rfl rfl rfl (Nat.le_of_ble_eq_true rfl) (by decide +kernel) (fun H locs hw => ?_)
  have hw : zj_w D A s.heap ([(h0, .inr (3, [.int 0, .int 0, .int 0, .null, .null, .null, .null]))] ++ []) H locs := hw
  refine lv_aload_n (k := 0) (i := 0) C0.1 C0.2.1 (by decide +kernel) rfl (lv_at hl 0 rfl) ?_
  refine lv_iconst (n := 0) (v := 0) C0.1 C0.2.1 (by decide +kernel) (by decide) ?_
  refine zj_put C0 hin hw (index := 15) (v := .int 0) 1 0 rfl rfl (Nat.le_of_ble_eq_true rfl) zv_fl_R_15 rfl rfl rfl (Nat.le_of_ble_eq_true rfl) (by decide +kernel) (fun H locs hw => ?_)
  have hw : zj_w D A s.heap ([(h0, .inr (3, [.int 0, .int 0, .int 0, .null, .null, .null, .null]))] ++ []) H locs := hw
  refine lv_aload_n (k := 0) (i := 0) C0.1 C0.2.1 (by decide +kernel) rfl (lv_at hl 0 rfl) ?_
  refine lv_iconst (n := 0) (v := 0) C0.1 C0.2.1 (by decide +kernel) (by decide) ?_
  refine zj_put C0 hin hw (index := 18) (v := .int 0) 2 0 rfl rfl (Nat.le_of_ble_eq_true rfl) zv_fl_R_18 rfl rfl rfl (Nat.le_of_ble_eq_true rfl) (by decide +kernel) (fun H locs hw => ?_)
  have hw : zj_w D A s.heap ([(h0, .inr (3, [.int 0, .int 0, .int 0, .null, .null, .null, .null]))] ++ []) H locs := hw
  refine lv_aload_n (k := 0) (i := 0) C0.1 C0.2.1 (by decide +kernel) rfl (lv_at hl 0 rfl) ?_
  refine lv_bipush (n := 8) (v := 8) C0.1 C0.2.1 (by decide +kernel) (by decide) ?_
  refine zj_newa C0 hw (atype := .boolean) 1 rfl rfl zv_ac_boolean (8, .inl fun _ => 0) (fun _ => rfl) (by decide) rfl (by decide +kernel) (Nat.le_of_ble_eq_true rfl) (Nat.le_of_ble_eq_true rfl) (by decide +kernel) (fun a1 H hw => ?_)
  have hw : zj_w D A s.heap ([(h0, .inr (3, [.int 0, .int 0, .int 0, .null, .null, .null, .null])), (a1, .inl (cZ, 8, .inl fun _ => 0))] ++ []) H locs := hw
  refine zj_put C0 hin hw (index := 21) (v := .ref a1) 3 0 rfl rfl (Nat.le_of_ble_eq_true rfl) zv_fl_R_21 rfl rfl rfl (Nat.le_of_ble_eq_true rfl) (by decide +kernel) (fun H locs hw => ?_)
  have hw : zj_w D A s.heap ([(h0, .inr (3, [.int 0, .int 0, .int 0, .ref a1, .null, .null, .null])), (a1, .inl (cZ, 8, .inl fun _ => 0))] ++ []) H locs := hw
  refine lv_aload_n (k := 0) (i := 0) C0.1 C0.2.1 (by decide +kernel) rfl (lv_at hl 0 rfl) ?_
  refine lv_bipush (n := 8) (v := 8) C0.1 C0.2.1 (by decide +kernel) (by decide) ?_
  refine zj_newa C0 hw (atype := .long) 2 rfl rfl zv_ac_long (8, .inr (.inl fun _ => 0)) (fun _ => rfl) (by decide) rfl (by decide +kernel) (Nat.le_of_ble_eq_true rfl) (Nat.le_of_ble_eq_true rfl) (by decide +kernel) (fun a2 H hw => ?_)
  have hw : zj_w D A s.heap ([(h0, .inr (3, [.int 0, .int 0, .int 0, .ref a1, .null, .null, .null])), (a1, .inl (cZ, 8, .inl fun _ => 0)), (a2, .inl (cJ, 8, .inr (.inl fun _ => 0)))] ++ []) H locs := hw
  refine zj_put C0 hin hw (index := 25) (v := .ref a2) 4 0 rfl rfl (Nat.le_of_ble_eq_true rfl) zv_fl_R_25 rfl rfl rfl (Nat.le_of_ble_eq_true rfl) (by decide +kernel) (fun H locs hw => ?_)
  have hw : zj_w D A s.heap ([(h0, .inr (3, [.int 0, .int 0, .int 0, .ref a1, .ref a2, .null, .null])), (a1, .inl (cZ, 8, .inl fun _ => 0)), (a2, .inl (cJ, 8, .inr (.inl fun _ => 0)))] ++ []) H locs := hw
  refine lv_aload_n (k := 0) (i := 0) C0.1 C0.2.1 (by decide +kernel) rfl (lv_at hl 0 rfl) ?_
  refine lv_bipush (n := 8) (v := 8) C0.1 C0.2.1 (by decide +kernel) (by decide) ?_
  refine zj_newa C0 hw (atype := .long) 2 rfl rfl zv_ac_long (8, .inr (.inl fun _ => 0)) (fun _ => rfl) (by decide) rfl (by decide +kernel) (Nat.le_of_ble_eq_true rfl) (Nat.le_of_ble_eq_true rfl) (by decide +kernel) (fun a3 H hw => ?_)
  have hw : zj_w D A s.heap ([(h0, .inr (3, [.int 0, .int 0, .int 0, .ref a1, .ref a2, .null, .null])), (a1, .inl (cZ, 8, .inl fun _ => 0)), (a2, .inl (cJ, 8, .inr (.inl fun _ => 0))), (a3, .inl (cJ, 8, .inr (.inl fun _ => 0)))] ++ []) H locs := hw
  refine zj_put C0 hin hw (index := 29) (v := .ref a3) 5 0 rfl rfl (Nat.le_of_ble_eq_true rfl) zv_fl_R_29 rfl rfl rfl (Nat.le_of_ble_eq_true rfl) (by decide +kernel) (fun H locs hw => ?_)
  have hw : zj_w D A s.heap ([(h0, .inr (3, [.int 0, .int 0, .int 0, .ref a1, .ref a2, .ref a3, .null])), (a1, .inl (cZ, 8, .inl fun _ => 0)), (a2, .inl (cJ, 8, .inr (.inl fun _ => 0))), (a3, .inl (cJ, 8, .inr (.inl fun _ => 0)))] ++ []) H locs := hw
  refine lv_aload_n (k := 0) (i := 0) C0.1 C0.2.1 (by decide +kernel) rfl (lv_at hl 0 rfl) ?_
  refine zj_new C0 hw (index := 32) 0 rfl zv_cl_R_32 zv_in_B zw_ini_0 [.null, .int 0] (by decide +kernel) (Nat.le_of_ble_eq_true rfl) (Nat.le_of_ble_eq_true rfl) (by decide +kernel) (fun b4 H hw => ?_)
  have hw : zj_w D A s.heap ([(h0, .inr (3, [.int 0, .int 0, .int 0, .ref a1, .ref a2, .ref a3, .null])), (a1, .inl (cZ, 8, .inl fun _ => 0)), (a2, .inl (cJ, 8, .inr (.inl fun _ => 0))), (a3, .inl (cJ, 8, .inr (.inl fun _ => 0))), (b4, .inr (0, [.null, .int 0]))] ++ []) H locs := hw
  refine lv_dup C0.1 C0.2.1 (by decide +kernel) rfl ?_
  have hw : zj_w D A s.heap (([(h0, .inr (3, [.int 0, .int 0, .int 0, .ref a1, .ref a2, .ref a3, .null])), (a1, .inl (cZ, 8, .inl fun _ => 0)), (a2, .inl (cJ, 8, .inr (.inl fun _ => 0))), (a3, .inl (cJ, 8, .inr (.inl fun _ => 0)))] ++ [(b4, .inr (0, [.null, .int 0]))]) ++ []) H locs := hw
  refine zj_call C0 hw (zj_Board  b4) zv_cd_B zw_ini_0 zv_ml_R_34 zv_im_B rfl (by decide +kernel) rfl (Nat.le_of_ble_eq_true rfl) (Nat.le_of_ble_eq_true rfl) hl.1 (Nat.le_of_ble_eq_true rfl) rfl (by decide +kernel) (Nat.le_of_ble_eq_true rfl) (Nat.le_of_ble_eq_true rfl) (fun u H locs hw => ?_)
  obtain ⟨c5, rfl⟩ : ∃ z, z = u := ⟨u, rfl⟩
  have hw : zj_w D A s.heap ([(h0, .inr (3, [.int 0, .int 0, .int 0, .ref a1, .ref a2, .ref a3, .null])), (a1, .inl (cZ, 8, .inl fun _ => 0)), (a2, .inl (cJ, 8, .inr (.inl fun _ => 0))), (a3, .inl (cJ, 8, .inr (.inl fun _ => 0))), (b4, .inr (0, [.ref c5, .int 0])), (c5, .inl (cI, 32, .inl fun _ => 0))] ++ ([] ++ [])) H locs := hw
  refine zj_put C0 hin hw (index := 35) (v := .ref b4) 6 0 rfl rfl (Nat.le_of_ble_eq_true rfl) zv_fl_R_35 rfl rfl rfl (Nat.le_of_ble_eq_true rfl) (by decide +kernel) (fun H locs hw => ?_)
  have hw : zj_w D A s.heap ([(h0, .inr (3, [.int 0, .int 0, .int 0, .ref a1, .ref a2, .ref a3, .ref b4])), (a1, .inl (cZ, 8, .inl fun _ => 0)), (a2, .inl (cJ, 8, .inr (.inl fun _ => 0))), (a3, .inl (cJ, 8, .inr (.inl fun _ => 0))), (b4, .inr (0, [.ref c5, .int 0])), (c5, .inl (cI, 32, .inl fun _ => 0))] ++ ([] ++ [])) H locs := hw
  exact fin (a1, a2, a3, b4, c5) H locs _ _ _ _ (Nat.le_of_ble_eq_true rfl) (Nat.le_of_ble_eq_true rfl) (by decide +kernel) hw
