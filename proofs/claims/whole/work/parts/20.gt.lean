/-! the tables are good, the rest -/
theorem zt_wf : zh_wf zt_Λ zt_cn = true := by decide +kernel
theorem zt_lf : zh_lf zt_Λ zt_ft = true := by decide +kernel
theorem zt_u1 : ((List.range 7).all fun ci => match zt_cl[ci]? with
  | some q => (List.range q.2.2).all fun k => decide (parseFieldDescriptor (q.2.1 k).2.2.1 = some (zt_ft ci k))
  | none => true) = true := by decide +kernel
theorem zt_u2 : (zt_cl.all fun q => (List.range q.2.2).all fun a => (List.range q.2.2).all fun b => decide (a = b) || decide ((q.2.1 a).2.1 ≠ (q.2.1 b).2.1)) = true := by decide +kernel
theorem zt_u0 : (zt_cl.all fun q => (u_ws q.1 q.2.1 q.2.2).all fun w => decide (w ∈ zt_WS)) = true := by decide +kernel
theorem zt_cg : za_cg zt_WS zt_cl zt_ft zt_Λ := by
  refine ⟨fun ci q hq => ⟨fun w hw => ?_, fun k hk => ?_, fun a ha b hb hab => ?_⟩, zh_lf_ok zt_lf⟩
  · exact of_decide_eq_true (List.all_eq_true.mp (List.all_eq_true.mp zt_u0 q (List.mem_of_getElem? hq)) w hw)
  · have hlt : ci < 7 := (List.getElem?_eq_some_iff.mp hq).1
    have h := List.all_eq_true.mp zt_u1 ci (List.mem_range.mpr hlt)
    rw [hq] at h
    exact of_decide_eq_true (List.all_eq_true.mp h k (List.mem_range.mpr hk))
  · have h := List.all_eq_true.mp (List.all_eq_true.mp (List.all_eq_true.mp zt_u2 q (List.mem_of_getElem? hq)) a (List.mem_range.mpr ha)) b (List.mem_range.mpr hb)
    simp only [Bool.or_eq_true, decide_eq_true_eq] at h
    rcases h with h | h
    · exact absurd h hab
    · exact h
theorem zt_gt : zk_gt zt := ⟨zh_wf_ok zt_wf, zt_cg, zt_gm, fun w hw => (List.mem_filter.mp hw).2⟩
