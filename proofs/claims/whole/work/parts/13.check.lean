/-! the tables, by program: what a computation decides gives what the rows ask; links by lists of a class's own (pool number, our numbers) -/
def zh_f3 (l : List (Nat × Nat × Nat)) (a b c : Nat) : Bool := l.any fun z => Nat.beq z.1 a && (Nat.beq z.2.1 b && Nat.beq z.2.2 c)
theorem zh_f3_ok {l : List (Nat × Nat × Nat)} {a b c : Nat} (h : zh_f3 l a b c = true) : (a, b, c) ∈ l := by
  obtain ⟨z, hz, h1⟩ := List.any_eq_true.mp h
  simp only [Bool.and_eq_true] at h1
  obtain ⟨z1, z2, z3⟩ := z
  have e1 : z1 = a := Nat.eq_of_beq_eq_true h1.1
  have e2 : z2 = b := Nat.eq_of_beq_eq_true h1.2.1
  have e3 : z3 = c := Nat.eq_of_beq_eq_true h1.2.2
  subst e1; subst e2; subst e3
  exact hz
/-- a class's links: fields read, fields written, methods of objects, static methods, long constants -/
abbrev zh_K : Type := List (Nat × Nat × Nat) × List (Nat × Nat × Nat) × List (Nat × Nat × Nat) × List (Nat × Nat × Nat) × List (Nat × Int32)
def zh_fF (Θ : zk_T) (own : String) (z : Nat × Nat × Nat) : Prop := ∃ q : vw_C, Θ.2.2.1[z.2.1]? = some q ∧ z.2.2 < q.2.2 ∧ Cond.fieldLink own z.1 (q.2.1 z.2.2).1 (q.2.1 z.2.2).2.1 (q.2.1 z.2.2).2.2.1 ∈ Θ.2.2.2.2.1
def zh_fP (Θ : zk_T) (own : String) (z : Nat × Nat × Nat) : Prop := ∃ q : vw_C, Θ.2.2.1[z.2.1]? = some q ∧ z.2.2 < q.2.2 ∧ Cond.fieldLink own z.1 (q.2.1 z.2.2).1 (q.2.1 z.2.2).2.1 (q.2.1 z.2.2).2.2.1 ∈ Θ.2.2.2.2.1 ∧ (q.2.1 z.2.2).2.2.2 = false
def zh_fV (Θ : zk_T) (own : String) (z : Nat × Nat × Nat) : Prop := ∃ (M : zk_Me) (q : vw_C), za_n Θ.2.2.2.2.2.1 z.2.1 = some M ∧ M.1 = 1 ∧ Θ.2.2.1[M.2.1]? = some q ∧ q.1 = M.2.2.1.cls ∧ Cond.methodLink own z.1 M.2.2.1 ∈ Θ.2.2.2.2.1 ∧ Cond.instanceMethod M.2.2.1 ∈ Θ.2.2.2.2.1 ∧ Cond.selects M.2.2.1.cls M.2.2.1 M.2.2.1 ∈ Θ.2.2.2.2.1 ∧ (parseMethodDescriptor M.2.2.1.desc).map (fun z => z.parameters.length + 1) = some z.2.2
def zh_fS (Θ : zk_T) (own : String) (z : Nat × Nat × Nat) : Prop := (z.2.1 = 999 ∧ Cond.methodLink own z.1 arraycopyName ∈ Θ.2.2.2.2.1 ∧ Cond.native arraycopyName ∈ Θ.2.2.2.2.1 ∧ Cond.static arraycopyName ∈ Θ.2.2.2.2.1 ∧ Cond.initialized "java/lang/System" ∈ Θ.2.2.2.2.1) ∨
  ∃ M : zk_Me, ¬ z.2.1 = 999 ∧ za_n Θ.2.2.2.2.2.1 z.2.1 = some M ∧ M.1 = 0 ∧ (Cond.methodLink own z.1 M.2.2.1 ∈ Θ.2.2.2.2.1 ∨ ∃ host : String, Cond.methodLinkNest own z.1 M.2.2.1 host ∈ Θ.2.2.2.2.1) ∧ Cond.static M.2.2.1 ∈ Θ.2.2.2.2.1 ∧ (parseMethodDescriptor M.2.2.1.desc).map (fun z => z.parameters.length) = some z.2.2
def zh_fK (Θ : zk_T) (own : String) (k : zh_K) : Prop := (∀ z ∈ k.1, zh_fF Θ own z) ∧ (∀ z ∈ k.2.1, zh_fP Θ own z) ∧ (∀ z ∈ k.2.2.1, zh_fV Θ own z) ∧ (∀ z ∈ k.2.2.2.1, zh_fS Θ own z) ∧ ∀ z ∈ k.2.2.2.2, Cond.constantLong own z.1 z.2.toInt64 ∈ Θ.2.2.2.2.1
def zh_gx (k : zh_K) (e : za_E) : Bool := match e.2.1 with
  | .iconst n => decide (Int32.ofInt n = e.2.2.2.2.2)
  | .bipush n => decide ((Int8.ofInt n).toInt32 = e.2.2.2.2.2)
  | .sipush n => decide ((Int16.ofInt n).toInt32 = e.2.2.2.2.2)
  | .ldc _ => false
  | .ldc2_w i => k.2.2.2.2.any fun z => Nat.beq z.1 i && decide (z.2 = e.2.2.2.2.2)
  | .iinc _ n => decide (Int32.ofInt n = e.2.2.2.2.2)
  | .ifCond _ off => decide ((e.1 : Int) + off = (e.2.2.2.1 : Int))
  | .if_icmp _ off => decide ((e.1 : Int) + off = (e.2.2.2.1 : Int))
  | .goto off => decide ((e.1 : Int) + off = (e.2.2.2.1 : Int))
  | .getfield i => zh_f3 k.1 i e.2.2.2.1 e.2.2.2.2.1
  | .putfield i => zh_f3 k.2.1 i e.2.2.2.1 e.2.2.2.2.1
  | .invokevirtual i => zh_f3 k.2.2.1 i e.2.2.2.1 e.2.2.2.2.1
  | .invokestatic i => zh_f3 k.2.2.2.1 i e.2.2.2.1 e.2.2.2.2.1
  | .invokespecial _ => false
  | .tableswitch _ _ _ _ => false
  | _ => true
theorem zh_gx_ok {Θ : zk_T} {own : String} {k : zh_K} (hk : zh_fK Θ own k) {e : za_E} (h : zh_gx k e = true) : za_gx own Θ.2.2.2.2.1 Θ.2.2.1 e ∧ zk_gc Θ own e := by
  obtain ⟨pc, ins, nx, x1, x2, v⟩ := e
  cases ins
  case getfield i =>
    obtain ⟨q, h1, h2, h3⟩ := hk.1 _ (zh_f3_ok (show zh_f3 k.1 i x1 x2 = true from h))
    exact ⟨⟨q, h1, h2, h3⟩, trivial⟩
  case putfield i =>
    obtain ⟨q, h1, h2, h3, h4⟩ := hk.2.1 _ (zh_f3_ok (show zh_f3 k.2.1 i x1 x2 = true from h))
    exact ⟨⟨q, h1, h2, h3, h4⟩, trivial⟩
  case invokevirtual i =>
    exact ⟨trivial, hk.2.2.1 _ (zh_f3_ok (show zh_f3 k.2.2.1 i x1 x2 = true from h))⟩
  case invokestatic i =>
    exact ⟨trivial, hk.2.2.2.1 _ (zh_f3_ok (show zh_f3 k.2.2.2.1 i x1 x2 = true from h))⟩
  case ldc2_w i =>
    obtain ⟨z, hz, h1⟩ := List.any_eq_true.mp (show (k.2.2.2.2.any fun z => Nat.beq z.1 i && decide (z.2 = v)) = true from h)
    simp only [Bool.and_eq_true, decide_eq_true_eq] at h1
    have := hk.2.2.2.2 z hz
    rw [Nat.eq_of_beq_eq_true h1.1, h1.2] at this
    exact ⟨this, trivial⟩
  case invokespecial i => cases h
  case ldc i => cases h
  case tableswitch a b c d => cases h
  all_goals first | (unfold zh_gx at h; simp only [decide_eq_true_eq] at h; exact ⟨h, trivial⟩) | exact ⟨trivial, trivial⟩
def zh_gd (k : zh_K) (cc : ByteArray) (e : za_E) : Bool := decide (decode cc e.1 = .ok (e.2.1, za_ln e.2.1 e.2.2.2.2.1)) && Nat.beq e.2.2.1 (e.1 + za_ln e.2.1 e.2.2.2.2.1) && zh_gx k e
theorem zh_gd_ok {Θ : zk_T} {cc : ByteArray} {own : String} {k : zh_K} (hk : zh_fK Θ own k) {prog : List za_E} (h : prog.all (zh_gd k cc) = true) : ∀ E ∈ prog, za_gd cc own Θ.2.2.2.2.1 Θ.2.2.1 E ∧ zk_gc Θ own E := by
  intro E hE
  have h1 := List.all_eq_true.mp h E hE
  unfold zh_gd at h1
  simp only [Bool.and_eq_true, decide_eq_true_eq] at h1
  obtain ⟨h2, h3⟩ := zh_gx_ok hk h1.2
  exact ⟨⟨h1.1.1, Nat.eq_of_beq_eq_true h1.1.2, h2⟩, h3⟩
def zh_ch : List za_E → Bool
  | [] => true
  | [_] => true
  | e :: e' :: r => (zk_nf e.2.1 || Nat.beq e.2.2.1 e'.1) && zh_ch (e' :: r)
theorem zh_ch_ok : ∀ {prog : List za_E}, zh_ch prog = true → zk_ch prog
  | [], _ => trivial
  | [_], _ => trivial
  | e :: e' :: r, h => by
    unfold zh_ch at h
    simp only [Bool.and_eq_true, Bool.or_eq_true] at h
    refine ⟨?_, zh_ch_ok h.2⟩
    rcases h.1 with h1 | h1
    · exact Or.inl h1
    · exact Or.inr (Nat.eq_of_beq_eq_true h1)
/-- the layout is closed -/
def zh_wf (Λ : List za_S) (cn : Nat → Nat) : Bool := (List.range Λ.length).all (fun b => match za_n Λ b with
  | some sh => (if sh.1 = 4 then sh.2.2.all (fun q => (if q.1 = 1 then decide (q.2.2 < cn q.2.1) else true) && (if q.1 = 2 then decide (cn b ≤ cn q.2.1) else true)) else true) && (if sh.1 = 3 then (match sh.2.2 with
    | q :: _ => decide (sh.2.1 * cn b ≤ cn q.1)
    | [] => true) else true)
  | none => true)
theorem zh_wf_ok {Λ : List za_S} {cn : Nat → Nat} (h : zh_wf Λ cn = true) : za_wf Λ cn := by
  intro b sh hb
  have hlt : b < Λ.length := by rw [za_n_eq] at hb; exact (List.getElem?_eq_some_iff.mp hb).1
  have h1 := List.all_eq_true.mp h b (List.mem_range.mpr hlt)
  rw [hb] at h1
  simp only [Bool.and_eq_true] at h1
  refine ⟨fun h4 f q hq => ?_, fun h3 q r hr => ?_⟩
  · have h2 := h1.1
    rw [if_pos h4] at h2
    have h5 := List.all_eq_true.mp h2 q (by rw [za_n_eq] at hq; exact List.mem_of_getElem? hq)
    simp only [Bool.and_eq_true] at h5
    refine ⟨fun h6 => ?_, fun h6 => ?_⟩
    · have := h5.1
      rw [if_pos h6] at this
      exact of_decide_eq_true this
    · have := h5.2
      rw [if_pos h6] at this
      exact of_decide_eq_true this
  · have h2 := h1.2
    rw [if_pos h3, hr] at h2
    exact of_decide_eq_true h2
/-- what an array of a list holds -/
def zh_lf (Λ : List za_S) (ft : Nat → Nat → FieldType) : Bool := Λ.all (fun sh => if sh.1 = 4 then (List.range sh.2.2.length).all (fun f => match za_n sh.2.2 f with
  | some q => if q.1 = 0 then (if q.2.1 = 0 then decide (ft sh.2.1 f = .int) else true) && (if q.2.1 = 1 then decide (ft sh.2.1 f = .boolean) else true) else true
  | none => true) else true)
theorem zh_lf_ok {Λ : List za_S} {ft : Nat → Nat → FieldType} (h : zh_lf Λ ft = true) : ∀ (b ci f : Nat) (fs : List (Nat × Nat × Nat)), za_n Λ b = some (4, ci, fs) → (∀ z, za_n fs f = some (0, 0, z) → ft ci f = .int) ∧ (∀ z, za_n fs f = some (0, 1, z) → ft ci f = .boolean) := by
  intro b ci f fs hb
  have h1 := List.all_eq_true.mp h _ (by rw [za_n_eq] at hb; exact List.mem_of_getElem? hb)
  rw [if_pos rfl] at h1
  have key : ∀ q, za_n fs f = some q → (if q.1 = 0 then (if q.2.1 = 0 then decide (ft ci f = .int) else true) && (if q.2.1 = 1 then decide (ft ci f = .boolean) else true) else true) = true := by
    intro q hq
    have hlt : f < fs.length := by rw [za_n_eq] at hq; exact (List.getElem?_eq_some_iff.mp hq).1
    have h2 := List.all_eq_true.mp h1 f (List.mem_range.mpr hlt)
    simp only at h2
    rw [hq] at h2
    exact h2
  refine ⟨fun z hz => ?_, fun z hz => ?_⟩
  · have := key _ hz
    simp only [if_true, Bool.and_eq_true] at this
    exact of_decide_eq_true this.1
  · have := key _ hz
    simp only [if_true, Bool.and_eq_true] at this
    exact of_decide_eq_true this.2
