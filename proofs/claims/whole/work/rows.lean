section
/-! THE ABSTRACT MACHINE, pure: what a method's instructions do to numbers and to a layout of cells; 'za_wp' is a proposition that computes: whnf of it walks the code. -/
/-- a value: an int, a long, a cell of the layout (its block, its number there), a bare address -/
abbrev za_V : Type := Int32 ⊕ Int64 ⊕ (Nat × Nat) ⊕ Nat
abbrev za_i (x : Int32) : za_V := .inl x
abbrev za_l (x : Int64) : za_V := .inr (.inl x)
abbrev za_r (b j : Nat) : za_V := .inr (.inr (.inl (b, j)))
abbrev za_q (a : Nat) : za_V := .inr (.inr (.inr a))
/-- what the cells hold: block, number, place -/
abbrev za_M : Type := (Nat → Nat → Nat → Int32) × (Nat → Nat → Nat → Int64)
/-- a block's shape: (0, n, _) int[n]; (1, n, _) boolean[n]; (2, n, _) long[n]; (3, n, [(b, _, _)]) an array of n references, the i-th of the cell j to the cell (b, n * j + i); (4, c, fs) objects of class c, a field (0, 0, _) an int, (0, 1, _) a boolean, (1, b, j) always the cell (b, j), (2, b, _) the cell of b with the object's own number -/
abbrev za_S : Type := Nat × Nat × List (Nat × Nat × Nat)
/-- an instruction: pc, itself, the next pc, two numbers of ours, a constant of ours -/
abbrev za_E : Type := Nat × Instr × Nat × Nat × Nat × Int32
abbrev za_C : Type := List (Option za_V)
abbrev za_K : Type := za_C → List za_V → za_M → Nat × Nat → Prop
def za_n {α : Type} : List α → Nat → Option α
  | [], _ => none
  | a :: _, 0 => some a
  | _ :: t, i + 1 => za_n t i
def za_set {α : Type} : List α → Nat → α → (List α → Prop) → Prop
  | [], _, _, _ => False
  | _ :: t, 0, v, k => k (v :: t)
  | a :: t, i + 1, v, k => za_set t i v (fun t' => k (a :: t'))
def za_u {α : Type} (f : Nat → Nat → Nat → α) (b j i : Nat) (x : α) : Nat → Nat → Nat → α := fun b' j' i' => if b' = b ∧ j' = j ∧ i' = i then x else f b' j' i'
def za_ix (j n i : Nat) : Nat := match j with
  | 0 => i
  | j' + 1 => n * (j' + 1) + i
def za_kill (ls : za_C) (i : Nat) (k : za_C → Prop) : Prop := match za_n ls i with
  | some (some (.inr (.inl _))) => za_set ls i none k
  | _ => k ls
def za_pre (ls : za_C) (i : Nat) (k : za_C → Prop) : Prop := match i with
  | 0 => k ls
  | i' + 1 => za_kill ls i' k
def za_st1 (ls : za_C) (i : Nat) (v : za_V) (k : za_C → Prop) : Prop := za_pre ls i (fun l1 => za_set l1 i (some v) k)
def za_st2 (ls : za_C) (i : Nat) (v : za_V) (k : za_C → Prop) : Prop := za_pre ls i (fun l1 => za_set l1 i (some v) (fun l2 => za_set l2 (i + 1) none k))
def za_ldI (ls : za_C) (i : Nat) (k : Int32 → Prop) : Prop := match za_n ls i with
  | some (some (.inl x)) => k x
  | _ => False
def za_ldL (ls : za_C) (i : Nat) (k : Int64 → Prop) : Prop := match za_n ls i with
  | some (some (.inr (.inl x))) => k x
  | _ => False
def za_ldA (ls : za_C) (i : Nat) (k : za_V → Prop) : Prop := match za_n ls i with
  | some (some (.inr (.inr r))) => k (.inr (.inr r))
  | _ => False
def za_1 (st : List za_V) (k : Int32 → List za_V → Prop) : Prop := match st with
  | .inl x :: t => k x t
  | _ => False
def za_2 (st : List za_V) (k : Int32 → Int32 → List za_V → Prop) : Prop := match st with
  | .inl y :: .inl x :: t => k x y t
  | _ => False
def za_L1 (st : List za_V) (k : Int64 → List za_V → Prop) : Prop := match st with
  | .inr (.inl x) :: t => k x t
  | _ => False
def za_L2 (st : List za_V) (k : Int64 → Int64 → List za_V → Prop) : Prop := match st with
  | .inr (.inl y) :: .inr (.inl x) :: t => k x y t
  | _ => False
def za_LI (st : List za_V) (k : Int64 → Int32 → List za_V → Prop) : Prop := match st with
  | .inl y :: .inr (.inl x) :: t => k x y t
  | _ => False
def za_A1 (st : List za_V) (k : za_V → List za_V → Prop) : Prop := match st with
  | .inr (.inr r) :: t => k (.inr (.inr r)) t
  | _ => False
def za_br (c : Jvm.ClassFile.Cond) (x y : Int32) (A B : Prop) : Prop := match c with
  | .eq => (x = y → A) ∧ (¬ x = y → B)
  | .ne => (¬ x = y → A) ∧ (x = y → B)
  | .lt => (x < y → A) ∧ (¬ x < y → B)
  | .ge => (y ≤ x → A) ∧ (¬ y ≤ x → B)
  | .gt => (y < x → A) ∧ (¬ y < x → B)
  | .le => (x ≤ y → A) ∧ (¬ x ≤ y → B)
/-- a field read -/
def za_gf (Λ : List za_S) (μ : za_M) (b j c f : Nat) (k : za_V → Prop) : Prop := match za_n Λ b with
  | some (4, c', fs) => (match Nat.beq c' c, za_n fs f with
    | true, some (0, _, _) => k (za_i (μ.1 b j f))
    | true, some (1, b', j') => k (za_r b' j')
    | true, some (2, b', _) => k (za_r b' j)
    | _, _ => False)
  | _ => False
/-- a field written -/
def za_pf (Λ : List za_S) (μ : za_M) (b j c f : Nat) (x : Int32) (k : za_M → Prop) : Prop := match za_n Λ b with
  | some (4, c', fs) => (match Nat.beq c' c, za_n fs f with
    | true, some (0, 0, _) => k (za_u μ.1 b j f x, μ.2)
    | true, some (0, 1, _) => (x = 0 ∨ x = 1) ∧ k (za_u μ.1 b j f x, μ.2)
    | _, _ => False)
  | _ => False
def za_pop : Nat → List za_V → List za_V → (List za_V → List za_V → Prop) → Prop
  | 0, st, acc, k => k acc st
  | _ + 1, [], _, _ => False
  | n + 1, v :: st, acc, k => za_pop n st (v :: acc) k
def za_mem : Nat → List Nat → Bool
  | _, [] => false
  | a, b :: t => match Nat.beq a b with
    | true => true
    | false => za_mem a t
def za_at : Nat → List za_E → List za_E
  | _, [] => []
  | t, e :: r => match Nat.beq e.1 t with
    | true => e :: r
    | false => za_at t r
/-- an array read and written -/
def za_ia (Λ : List za_S) (μ : za_M) (kd b j : Nat) (i : Int32) (k : za_V → Prop) : Prop := match za_n Λ b with
  | some (0, n, _) => (match kd with
    | 0 => vp_in i n ∧ k (za_i (μ.1 b j i.toNatClampNeg))
    | _ => False)
  | some (1, n, _) => (match kd with
    | 1 => vp_in i n ∧ k (za_i (μ.1 b j i.toNatClampNeg))
    | _ => False)
  | some (2, n, _) => (match kd with
    | 2 => vp_in i n ∧ k (za_l (μ.2 b j i.toNatClampNeg))
    | _ => False)
  | some (3, n, (b', _, _) :: _) => (match kd with
    | 3 => vp_in i n ∧ k (za_r b' (za_ix j n i.toNatClampNeg))
    | _ => False)
  | _ => False
def za_is (Λ : List za_S) (μ : za_M) (kd b j : Nat) (i x : Int32) (k : za_M → Prop) : Prop := match za_n Λ b with
  | some (0, n, _) => (match kd with
    | 0 => vp_in i n ∧ k (za_u μ.1 b j i.toNatClampNeg x, μ.2)
    | _ => False)
  | some (1, n, _) => (match kd with
    | 1 => vp_in i n ∧ (x = 0 ∨ x = 1) ∧ k (za_u μ.1 b j i.toNatClampNeg x, μ.2)
    | _ => False)
  | _ => False
def za_ls (Λ : List za_S) (μ : za_M) (b j : Nat) (i : Int32) (x : Int64) (k : za_M → Prop) : Prop := match za_n Λ b with
  | some (2, n, _) => vp_in i n ∧ k (μ.1, za_u μ.2 b j i.toNatClampNeg x)
  | _ => False
def za_al (Λ : List za_S) (b : Nat) (k : Int32 → Prop) : Prop := match za_n Λ b with
  | some (0, n, _) => k (nI n)
  | some (1, n, _) => k (nI n)
  | some (2, n, _) => k (nI n)
  | some (3, n, _ :: _) => k (nI n)
  | _ => False
/-- the script: whether there is one, its address, its length, its ints -/
abbrev za_X : Type := Bool × Nat × Nat × (Nat → Int32)
def za_ald (Λ : List za_S) (X : za_X) (μ : za_M) (kd : Nat) (st : List za_V) (k : za_V → List za_V → Prop) : Prop := match st with
  | .inl i :: .inr (.inr (.inl (b, j))) :: t => za_ia Λ μ kd b j i (fun v => k v t)
  | .inl i :: .inr (.inr (.inr a)) :: t => X.1 = true ∧ kd = 0 ∧ a = X.2.1 ∧ vp_in i X.2.2.1 ∧ k (za_i (X.2.2.2 i.toNatClampNeg)) t
  | _ => False
def za_ast (Λ : List za_S) (μ : za_M) (kd : Nat) (st : List za_V) (k : za_M → List za_V → Prop) : Prop := match st with
  | .inl x :: .inl i :: .inr (.inr (.inl (b, j))) :: t => za_is Λ μ kd b j i x (fun m => k m t)
  | .inr (.inl x) :: .inl i :: .inr (.inr (.inl (b, j))) :: t => (match kd with
    | 2 => za_ls Λ μ b j i x (fun m => k m t)
    | _ => False)
  | _ => False
def za_len (Λ : List za_S) (X : za_X) (st : List za_V) (k : Int32 → List za_V → Prop) : Prop := match st with
  | .inr (.inr (.inl (b, _))) :: t => za_al Λ b (fun x => k x t)
  | .inr (.inr (.inr a)) :: t => X.1 = true ∧ a = X.2.1 ∧ k (nI X.2.2.1) t
  | _ => False
def za_get (Λ : List za_S) (μ : za_M) (c f : Nat) (st : List za_V) (k : za_V → List za_V → Prop) : Prop := match st with
  | .inr (.inr (.inl (b, j))) :: t => za_gf Λ μ b j c f (fun v => k v t)
  | _ => False
def za_put (Λ : List za_S) (μ : za_M) (c f : Nat) (st : List za_V) (k : za_M → List za_V → Prop) : Prop := match st with
  | .inl x :: .inr (.inr (.inl (b, j))) :: t => za_pf Λ μ b j c f x (fun m => k m t)
  | _ => False
def za_dup (st : List za_V) (k : List za_V → Prop) : Prop := match st with
  | .inl x :: t => k (.inl x :: .inl x :: t)
  | .inr (.inr r) :: t => k (.inr (.inr r) :: .inr (.inr r) :: t)
  | _ => False
def za_dup2 (st : List za_V) (k : List za_V → Prop) : Prop := match st with
  | .inr (.inl x) :: t => k (.inr (.inl x) :: .inr (.inl x) :: t)
  | .inl x :: .inl y :: t => k (.inl x :: .inl y :: .inl x :: .inl y :: t)
  | .inl x :: .inr (.inr r) :: t => k (.inl x :: .inr (.inr r) :: .inl x :: .inr (.inr r) :: t)
  | _ => False
def za_dupx1 (st : List za_V) (k : List za_V → Prop) : Prop := match st with
  | .inl x :: .inl y :: t => k (.inl x :: .inl y :: .inl x :: t)
  | .inl x :: .inr (.inr r) :: t => k (.inl x :: .inr (.inr r) :: .inl x :: t)
  | _ => False
def za_drop1 (st : List za_V) (k : List za_V → Prop) : Prop := match st with
  | .inl _ :: t => k t
  | .inr (.inr _) :: t => k t
  | _ => False
def za_back (r : Option za_V) (t : List za_V) (k : List za_V → Prop) : Prop := match r with
  | none => k t
  | some v => k (v :: t)
/-- words on the stack -/
def za_wt : List za_V → Nat
  | [] => 0
  | .inr (.inl _) :: t => 2 + za_wt t
  | _ :: t => 1 + za_wt t
/-- a row of ints copied over another -/
def za_ur {α : Type} (f : Nat → Nat → Nat → α) (b j : Nat) (r : Nat → α) : Nat → Nat → Nat → α := fun b' j' => if b' = b ∧ j' = j then r else f b' j'
def za_cp (Λ : List za_S) (μ : za_M) (st : List za_V) (k : za_M → List za_V → Prop) : Prop := match st with
  | .inl n :: .inl dp :: .inr (.inr (.inl (bd, jd))) :: .inl sp :: .inr (.inr (.inl (bs, js))) :: t => (match za_n Λ bs, za_n Λ bd with
    | some (0, ns, _), some (0, nd, _) => ¬ sp < 0 ∧ ¬ dp < 0 ∧ ¬ n < 0 ∧ sp.toNatClampNeg + n.toNatClampNeg ≤ ns ∧ dp.toNatClampNeg + n.toNatClampNeg ≤ nd ∧ za_wt t ≤ 8 ∧ k (za_ur μ.1 bd jd (va_cpy (μ.1 bs js) (μ.1 bd jd) sp.toNatClampNeg dp.toNatClampNeg n.toNatClampNeg), μ.2) t
    | _, _ => False)
  | _ => False
def za_cl (n : Nat) (st : List za_V) (k : List za_V → List za_V → Prop) : Prop := za_pop n st [] (fun as t => match Nat.ble (za_wt t) 8 with
  | true => k as t
  | false => False)
abbrev za_RR : Type := Option za_V → za_M → Nat × Nat → Prop
abbrev za_XX : Type := Nat → za_M → Nat × Nat → Prop
abbrev za_CC : Type := Nat → List za_V → za_M → Nat × Nat → za_RR → za_XX → Prop
def za_sw (x : Int32) : Int → List Nat → (Nat → Prop) → Prop → Prop
  | _, [], _, d => d
  | v, t :: r, j, d => (x = Int32.ofInt v → j t) ∧ (¬ x = Int32.ofInt v → za_sw x (v + 1) r j d)
set_option maxHeartbeats 4000000 in
/-- one instruction: K goes on behind it, J jumps, RR returns, XX throws, CC calls, HX: a callee threw -/
def za_stp (Λ : List za_S) (X : za_X) (ret : Nat) (RR : za_RR) (XX : za_XX) (CC : za_CC) (HX : Nat → za_C → za_M → Nat × Nat → Prop) (K : za_K) (J : Nat → za_K) (e : za_E) (ls : za_C) (st : List za_V) (μ : za_M) (κ : Nat × Nat) : Prop := match e.2.1 with
  | .iconst _ => K ls (za_i e.2.2.2.2.2 :: st) μ κ
  | .bipush _ => K ls (za_i e.2.2.2.2.2 :: st) μ κ
  | .sipush _ => K ls (za_i e.2.2.2.2.2 :: st) μ κ
  | .ldc _ => K ls (za_i e.2.2.2.2.2 :: st) μ κ
  | .ldc2_w _ => K ls (za_l e.2.2.2.2.2.toInt64 :: st) μ κ
  | .lconst n => K ls (za_l (Int64.ofNat n) :: st) μ κ
  | .iload i => za_ldI ls i (fun x => K ls (za_i x :: st) μ κ)
  | .iload_n i => za_ldI ls i (fun x => K ls (za_i x :: st) μ κ)
  | .lload i => za_ldL ls i (fun x => K ls (za_l x :: st) μ κ)
  | .lload_n i => za_ldL ls i (fun x => K ls (za_l x :: st) μ κ)
  | .aload i => za_ldA ls i (fun v => K ls (v :: st) μ κ)
  | .aload_n i => za_ldA ls i (fun v => K ls (v :: st) μ κ)
  | .istore i => za_1 st (fun x t => za_st1 ls i (za_i x) (fun l1 => K l1 t μ κ))
  | .istore_n i => za_1 st (fun x t => za_st1 ls i (za_i x) (fun l1 => K l1 t μ κ))
  | .lstore i => za_L1 st (fun x t => za_st2 ls i (za_l x) (fun l1 => K l1 t μ κ))
  | .lstore_n i => za_L1 st (fun x t => za_st2 ls i (za_l x) (fun l1 => K l1 t μ κ))
  | .astore i => za_A1 st (fun v t => za_st1 ls i v (fun l1 => K l1 t μ κ))
  | .astore_n i => za_A1 st (fun v t => za_st1 ls i v (fun l1 => K l1 t μ κ))
  | .iinc i _ => za_ldI ls i (fun x => za_st1 ls i (za_i (x + e.2.2.2.2.2)) (fun l1 => K l1 st μ κ))
  | .iadd => za_2 st (fun x y t => K ls (za_i (x + y) :: t) μ κ)
  | .isub => za_2 st (fun x y t => K ls (za_i (x - y) :: t) μ κ)
  | .imul => za_2 st (fun x y t => K ls (za_i (x * y) :: t) μ κ)
  | .idiv => za_2 st (fun x y t => ¬ y = 0 ∧ K ls (za_i (x / y) :: t) μ κ)
  | .irem => za_2 st (fun x y t => ¬ y = 0 ∧ K ls (za_i (x - x / y * y) :: t) μ κ)
  | .ineg => za_1 st (fun x t => K ls (za_i (-x) :: t) μ κ)
  | .iand => za_2 st (fun x y t => K ls (za_i (x &&& y) :: t) μ κ)
  | .ior => za_2 st (fun x y t => K ls (za_i (x ||| y) :: t) μ κ)
  | .ixor => za_2 st (fun x y t => K ls (za_i (x ^^^ y) :: t) μ κ)
  | .ishl => za_2 st (fun x y t => K ls (za_i (x <<< (y &&& 31)) :: t) μ κ)
  | .ishr => za_2 st (fun x y t => K ls (za_i (x >>> (y &&& 31)) :: t) μ κ)
  | .iushr => za_2 st (fun x y t => K ls (za_i (x.toUInt32 >>> (y.toUInt32 &&& Int32.toUInt32 31)).toInt32 :: t) μ κ)
  | .ladd => za_L2 st (fun x y t => K ls (za_l (x + y) :: t) μ κ)
  | .lsub => za_L2 st (fun x y t => K ls (za_l (x - y) :: t) μ κ)
  | .land => za_L2 st (fun x y t => K ls (za_l (x &&& y) :: t) μ κ)
  | .lor => za_L2 st (fun x y t => K ls (za_l (x ||| y) :: t) μ κ)
  | .lxor => za_L2 st (fun x y t => K ls (za_l (x ^^^ y) :: t) μ κ)
  | .lcmp => za_L2 st (fun x y t => K ls (za_i (lg_cmp x y) :: t) μ κ)
  | .lshl => za_LI st (fun x y t => K ls (za_l (x <<< (y.toInt64 &&& 63)) :: t) μ κ)
  | .lshr => za_LI st (fun x y t => K ls (za_l (x >>> (y.toInt64 &&& 63)) :: t) μ κ)
  | .lushr => za_LI st (fun x y t => K ls (za_l (x.toUInt64 >>> (y.toInt64.toUInt64 &&& Int64.toUInt64 63)).toInt64 :: t) μ κ)
  | .i2l => za_1 st (fun x t => K ls (za_l x.toInt64 :: t) μ κ)
  | .l2i => za_L1 st (fun x t => K ls (za_i x.toInt32 :: t) μ κ)
  | .dup => za_dup st (fun t => K ls t μ κ)
  | .dup2 => za_dup2 st (fun t => K ls t μ κ)
  | .dup_x1 => za_dupx1 st (fun t => K ls t μ κ)
  | .pop => za_drop1 st (fun t => K ls t μ κ)
  | .ifCond c _ => za_1 st (fun x t => za_br c x 0 (J e.2.2.2.1 ls t μ κ) (K ls t μ κ))
  | .if_icmp c _ => za_2 st (fun x y t => za_br c x y (J e.2.2.2.1 ls t μ κ) (K ls t μ κ))
  | .goto _ => J e.2.2.2.1 ls st μ κ
  | .tableswitch _ lo _ offs => za_1 st (fun x t => za_sw x lo (offs.toList.map fun o => ((e.1 : Int) + o).toNat) (fun p => J p ls t μ κ) (J e.2.2.2.1 ls t μ κ))
  | .getfield _ => za_get Λ μ e.2.2.2.1 e.2.2.2.2.1 st (fun v t => K ls (v :: t) μ κ)
  | .putfield _ => za_put Λ μ e.2.2.2.1 e.2.2.2.2.1 st (fun m t => K ls t m κ)
  | .iaload => za_ald Λ X μ 0 st (fun v t => K ls (v :: t) μ κ)
  | .baload => za_ald Λ X μ 1 st (fun v t => K ls (v :: t) μ κ)
  | .laload => za_ald Λ X μ 2 st (fun v t => K ls (v :: t) μ κ)
  | .aaload => za_ald Λ X μ 3 st (fun v t => K ls (v :: t) μ κ)
  | .iastore => za_ast Λ μ 0 st (fun m t => K ls t m κ)
  | .bastore => za_ast Λ μ 1 st (fun m t => K ls t m κ)
  | .lastore => za_ast Λ μ 2 st (fun m t => K ls t m κ)
  | .arraylength => za_len Λ X st (fun x t => K ls (za_i x :: t) μ κ)
  | .invokevirtual _ => za_cl e.2.2.2.2.1 st (fun as t => CC e.2.2.2.1 as μ κ (fun r m q => za_back r t (fun t1 => K ls t1 m q)) (fun x m q => HX x ls m q))
  | .invokespecial _ => za_cl e.2.2.2.2.1 st (fun as t => CC e.2.2.2.1 as μ κ (fun r m q => za_back r t (fun t1 => K ls t1 m q)) (fun x m q => HX x ls m q))
  | .invokestatic _ => (match Nat.beq e.2.2.2.1 999 with
    | true => za_cp Λ μ st (fun m t => K ls t m κ)
    | false => za_cl e.2.2.2.2.1 st (fun as t => CC e.2.2.2.1 as μ κ (fun r m q => za_back r t (fun t1 => K ls t1 m q)) (fun x m q => HX x ls m q)))
  | .new _ => XX e.2.2.2.1 μ (κ.1 + 1, κ.2 + 6)
  | .ireturn => za_1 st (fun x t => t = [] ∧ (ret = 1 ∨ ret = 2 ∧ (x = 0 ∨ x = 1)) ∧ RR (some (za_i x)) μ κ)
  | .lreturn => za_L1 st (fun x t => t = [] ∧ ret = 3 ∧ RR (some (za_l x)) μ κ)
  | .areturn => za_A1 st (fun v t => t = [] ∧ ret = 4 ∧ RR (some v) μ κ)
  | .return_ => st = [] ∧ ret = 0 ∧ RR none μ κ
  | _ => False
def za_wp (Λ : List za_S) (X : za_X) (ret : Nat) (RR : za_RR) (XX : za_XX) (CC : za_CC) (HX : Nat → Nat → za_C → za_M → Nat × Nat → Prop) (prog : List za_E) (cuts : List Nat) (ZZ : Nat → za_K) : Nat → List za_E → za_K
  | 0, _, _, _, _, _ => False
  | _ + 1, [], _, _, _, _ => False
  | n + 1, e :: r, ls, st, μ, κ => match za_mem e.1 cuts with
    | true => ZZ e.1 ls st μ κ
    | false => za_stp Λ X ret RR XX CC (HX e.1) (fun ls st μ κ => za_wp Λ X ret RR XX CC HX prog cuts ZZ n r ls st μ κ) (fun t ls st μ κ => za_wp Λ X ret RR XX CC HX prog cuts ZZ n (za_at t prog) ls st μ κ) e ls st μ κ
end
section
/-! PATHS: the least relation that holds E and is closed under going on at places of S (pure). -/
def pq_T (S : Nat → Prop) (E : Nat → Nat → Prop) (x y : Nat) : Prop := ∀ R : Nat → Nat → Prop, (∀ a b, E a b → R a b) → (∀ a v b, S v → R a v → R v b → R a b) → R x y
theorem pq_base {S : Nat → Prop} {E : Nat → Nat → Prop} {x y : Nat} (h : E x y) : pq_T S E x y := fun _ h1 _ => h1 x y h
theorem pq_comp {S : Nat → Prop} {E : Nat → Nat → Prop} {x v y : Nat} (hv : S v) (h1 : pq_T S E x v) (h2 : pq_T S E v y) : pq_T S E x y := fun R e c => c x v y hv (h1 R e c) (h2 R e c)
theorem pq_least {S : Nat → Prop} {E R : Nat → Nat → Prop} (h1 : ∀ a b, E a b → R a b) (h2 : ∀ a v b, S v → R a v → R v b → R a b) {x y : Nat} (h : pq_T S E x y) : R x y := h R h1 h2
theorem pq_mono {S S' : Nat → Prop} {E E' : Nat → Nat → Prop} (hS : ∀ v, S v → S' v) (hE : ∀ a b, E a b → E' a b) {x y : Nat} (h : pq_T S E x y) : pq_T S' E' x y :=
  pq_least (R := pq_T S' E') (fun _ _ h => pq_base (hE _ _ h)) (fun _ v _ hv h1 h2 => pq_comp (hS v hv) h1 h2) h
theorem pq_congr {S S' : Nat → Prop} {E E' : Nat → Nat → Prop} (hS : ∀ v, S v ↔ S' v) (hE : ∀ a b, E a b ↔ E' a b) (x y : Nat) : pq_T S E x y ↔ pq_T S' E' x y :=
  ⟨pq_mono (fun v => (hS v).mp) (fun a b => (hE a b).mp), pq_mono (fun v => (hS v).mpr) (fun a b => (hE a b).mpr)⟩
theorem pq_none {E : Nat → Nat → Prop} (x y : Nat) : pq_T (fun _ => False) E x y ↔ E x y :=
  ⟨fun h => pq_least (fun _ _ h => h) (fun _ _ _ hv _ _ => hv.elim) h, pq_base⟩
/-- one place more -/
theorem pq_elim {S : Nat → Prop} {E : Nat → Nat → Prop} (v x y : Nat) : pq_T (fun u => S u ∨ u = v) E x y ↔ (pq_T S E x y ∨ (pq_T S E x v ∧ pq_T S E v y)) := by
  constructor
  · intro h
    refine pq_least (R := fun x y => pq_T S E x y ∨ (pq_T S E x v ∧ pq_T S E v y)) (fun a b h => Or.inl (pq_base h)) ?_ h
    intro a u b hu h1 h2
    rcases hu with hu | rfl
    · rcases h1 with h1 | ⟨h1, h1'⟩
      · rcases h2 with h2 | ⟨h2, h2'⟩
        · exact Or.inl (pq_comp hu h1 h2)
        · exact Or.inr ⟨pq_comp hu h1 h2, h2'⟩
      · rcases h2 with h2 | ⟨h2, h2'⟩
        · exact Or.inr ⟨h1, pq_comp hu h1' h2⟩
        · exact Or.inr ⟨h1, h2'⟩
    · have a1 : pq_T S E a u := by rcases h1 with h1 | h1; exact h1; exact h1.1
      have a2 : pq_T S E u b := by rcases h2 with h2 | h2; exact h2; exact h2.2
      exact Or.inr ⟨a1, a2⟩
  · rintro (h | ⟨h1, h2⟩)
    · exact pq_mono (fun _ h => Or.inl h) (fun _ _ h => h) h
    · exact pq_comp (Or.inr rfl) (pq_mono (fun _ h => Or.inl h) (fun _ _ h => h) h1) (pq_mono (fun _ h => Or.inl h) (fun _ _ h => h) h2)
/-- what is laid neither begins nor ends in S -/
theorem pq_lay {S : Nat → Prop} {E F : Nat → Nat → Prop} (hF : ∀ a b, F a b → ¬ S a ∧ ¬ S b) (x y : Nat) : pq_T S (fun a b => E a b ∨ F a b) x y ↔ (pq_T S E x y ∨ F x y) := by
  constructor
  · intro h
    refine pq_least (R := fun x y => pq_T S E x y ∨ F x y) (fun a b h => ?_) ?_ h
    · rcases h with h | h
      · exact Or.inl (pq_base h)
      · exact Or.inr h
    · intro a u b hu h1 h2
      rcases h1 with h1 | h1
      · rcases h2 with h2 | h2
        · exact Or.inl (pq_comp hu h1 h2)
        · exact ((hF _ _ h2).1 hu).elim
      · exact ((hF _ _ h1).2 hu).elim
  · rintro (h | h)
    · exact pq_mono (fun _ h => h) (fun _ _ h => Or.inl h) h
    · exact pq_base (Or.inr h)
theorem pq_from {S : Nat → Prop} {E : Nat → Nat → Prop} {x y : Nat} (h : pq_T S E x y) : ∃ z, E x z :=
  pq_least (R := fun x _ => ∃ z, E x z) (fun _ b h => ⟨b, h⟩) (fun _ _ _ _ h1 _ => h1) h
theorem pq_to {S : Nat → Prop} {E : Nat → Nat → Prop} {x y : Nat} (h : pq_T S E x y) : ∃ z, E z y :=
  pq_least (R := fun _ y => ∃ z, E z y) (fun a _ h => ⟨a, h⟩) (fun _ _ _ _ _ h2 => h2) h
/-- places at which nothing goes on needn't be in S -/
theorem pq_all {S : Nat → Prop} {E : Nat → Nat → Prop} (h : ∀ v a b, E a v → E v b → S v) (x y : Nat) : pq_T (fun _ => True) E x y ↔ pq_T S E x y := by
  constructor
  · intro h1
    refine pq_least (R := pq_T S E) (fun _ _ h => pq_base h) ?_ h1
    intro a v b _ h2 h3
    obtain ⟨z, hz⟩ := pq_to h2
    obtain ⟨w, hw⟩ := pq_from h3
    exact pq_comp (h v z w hz hw) h2 h3
  · exact pq_mono (fun _ _ => trivial) (fun _ _ h => h)
/-- no circle before, none at the new place: none behind it -/
theorem pq_acyc {S : Nat → Prop} {E : Nat → Nat → Prop} {v : Nat} (h : ∀ u, S u → ¬ pq_T S E u u) (hv : ¬ pq_T S E v v) : ∀ u, (S u ∨ u = v) → ¬ pq_T (fun u => S u ∨ u = v) E u u := by
  intro u hu hc
  rcases (pq_elim v u u).mp hc with h1 | ⟨h1, h2⟩
  · rcases hu with hu | rfl
    · exact h u hu h1
    · exact hv h1
  · rcases hu with hu | rfl
    · exact hv (pq_comp hu h2 h1)
    · exact hv h1
/-- a circle goes through a place at which something goes on -/
theorem pq_circle {S : Nat → Prop} {E : Nat → Nat → Prop} (h : ∀ v a b, E a v → E v b → S v) : (∃ u, pq_T (fun _ => True) E u u) ↔ ∃ u, S u ∧ pq_T S E u u := by
  constructor
  · rintro ⟨u, hu⟩
    obtain ⟨z, hz⟩ := pq_to hu
    obtain ⟨w, hw⟩ := pq_from hu
    exact ⟨u, h u z w hz hw, (pq_all h u u).mp hu⟩
  · rintro ⟨u, -, hu⟩
    exact ⟨u, (pq_all h u u).mpr hu⟩
end
section
/-! THE ABSTRACT MACHINE IS SOUND: what it says of a place in the code, the walk of the kit does. -/
def za_cv (ad : Nat → Nat → Nat) (v : za_V) : Value := match v with
  | .inl x => .int x
  | .inr (.inl y) => .long y
  | .inr (.inr (.inl q)) => .ref (ad q.1 q.2)
  | .inr (.inr (.inr a)) => .ref a
/-- a reference to a cell that is there -/
def za_ok (cn : Nat → Nat) (v : za_V) : Prop := match v with
  | .inr (.inr (.inl q)) => q.2 < cn q.1
  | _ => True
def za_oks (cn : Nat → Nat) : List za_V → Prop
  | [] => True
  | v :: t => za_ok cn v ∧ za_oks cn t
def za_okc (cn : Nat → Nat) (ls : za_C) : Prop := ∀ (i : Nat) (v : za_V), za_n ls i = some (some v) → za_ok cn v
def za_lo (ad : Nat → Nat → Nat) (nL : Nat) (ls : za_C) (lc : Array Slot) : Prop := ls.length = nL ∧ lc.size = nL ∧ lv_wf lc ∧ ∀ (i : Nat) (v : za_V), za_n ls i = some (some v) → lc[i]? = some (.val (za_cv ad v))
/-- the cells -/
def za_fv (ad : Nat → Nat → Nat) (μ : za_M) (b j f : Nat) (q : Nat × Nat × Nat) : Value := match q with
  | (0, _, _) => .int (μ.1 b j f)
  | (1, b', j') => .ref (ad b' j')
  | (_, b', _) => .ref (ad b' j)
def za_fs (ad : Nat → Nat → Nat) (μ : za_M) (b j : Nat) : Nat → List (Nat × Nat × Nat) → List Value
  | _, [] => []
  | f, q :: t => za_fv ad μ b j f q :: za_fs ad μ b j (f + 1) t
def za_en (Λ : List za_S) (ad : Nat → Nat → Nat) (ca : Nat → ClassId) (μ : za_M) (b j : Nat) : va_E := match za_n Λ b with
  | some (0, n, _) => .inl (ca b, n, .inl (μ.1 b j))
  | some (1, n, _) => .inl (ca b, n, .inl (μ.1 b j))
  | some (2, n, _) => .inl (ca b, n, .inr (.inl (μ.2 b j)))
  | some (3, n, (b', _, _) :: _) => .inl (ca b, n, .inr (.inr (.inr (.inr (fun i => some (ad b' (za_ix j n i)))))))
  | some (4, ci, fs) => .inr (ci, za_fs ad μ b j 0 fs)
  | _ => .inr (0, [])
def za_ps (cn : Nat → Nat) : Nat → List (Nat × Nat)
  | 0 => []
  | b + 1 => za_ps cn b ++ (List.range (cn b)).map (fun j => (b, j))
def za_ws (Λ : List za_S) (cn : Nat → Nat) (ad : Nat → Nat → Nat) (ca : Nat → ClassId) (μ : za_M) : va_W := (za_ps cn Λ.length).map (fun q => (ad q.1 q.2, za_en Λ ad ca μ q.1 q.2))
theorem za_ps_mem {cn : Nat → Nat} {n : Nat} {q : Nat × Nat} : q ∈ za_ps cn n ↔ q.1 < n ∧ q.2 < cn q.1 := by
  induction n with
  | zero => simp [za_ps]
  | succ n ih =>
    simp only [za_ps, List.mem_append, List.mem_map, List.mem_range, ih]
    constructor
    · rintro (⟨h1, h2⟩ | ⟨j, hj, rfl⟩)
      · exact ⟨by omega, h2⟩
      · exact ⟨by simp, hj⟩
    · rintro ⟨h1, h2⟩
      by_cases h : q.1 = n
      · right
        exact ⟨q.2, by rw [← h]; exact h2, by rw [← h]⟩
      · left
        exact ⟨by omega, h2⟩
theorem za_ps_nodup {cn : Nat → Nat} {n : Nat} : (za_ps cn n).Nodup := by
  induction n with
  | zero => simp [za_ps]
  | succ n ih =>
    simp only [za_ps]
    rw [List.nodup_append]
    refine ⟨ih, ?_, ?_⟩
    · rw [List.nodup_iff_pairwise_ne, List.pairwise_map]
      refine List.Pairwise.imp ?_ (List.nodup_iff_pairwise_ne.mp (List.nodup_range (n := cn n)))
      intro a b hab h
      exact hab (by simpa using h)
    · intro a ha b hb hab
      subst hab
      obtain ⟨j, -, rfl⟩ := List.mem_map.mp hb
      have := (za_ps_mem.mp ha).1
      simp at this
theorem za_map_set {α β : Type} {l : List α} (hn : l.Nodup) {f g : α → β} {k : Nat} {a : α} {y : β} (hk : l[k]? = some a) (hy : g a = y) (ho : ∀ b, b ≠ a → g b = f b) : (l.map f).set k y = l.map g := by
  induction l generalizing k with
  | nil => simp at hk
  | cons c t ih =>
    rw [List.nodup_cons] at hn
    cases k with
    | zero =>
      simp only [List.getElem?_cons_zero, Option.some.injEq] at hk
      subst hk
      simp only [List.map_cons, List.set_cons_zero, hy, List.cons.injEq, true_and]
      refine List.map_congr_left fun b hb => (ho b ?_).symm
      intro h
      exact hn.1 (h ▸ hb)
    | succ k =>
      simp only [List.getElem?_cons_succ] at hk
      simp only [List.map_cons, List.set_cons_succ, List.cons.injEq]
      refine ⟨(ho c ?_).symm, ih hn.2 hk⟩
      intro h
      exact hn.1 (h ▸ List.mem_of_getElem? hk)
theorem za_n_eq {α : Type} (l : List α) (i : Nat) : za_n l i = l[i]? := by
  induction l generalizing i with
  | nil => simp [za_n]
  | cons a t ih =>
    cases i with
    | zero => simp [za_n]
    | succ i => simp [za_n, ih]
theorem za_set_spec {α : Type} {l : List α} {i : Nat} {v : α} {k : List α → Prop} (h : za_set l i v k) : i < l.length ∧ k (l.set i v) := by
  induction l generalizing i k with
  | nil => exact h.elim
  | cons a t ih =>
    cases i with
    | zero => exact ⟨by simp, h⟩
    | succ i =>
      obtain ⟨h1, h2⟩ := ih (k := fun t' => k (a :: t')) h
      exact ⟨by simpa using h1, h2⟩
/-! locals -/
def za_isL (v : za_V) : Prop := match v with
  | .inr (.inl _) => True
  | _ => False
theorem za_cat2 {ad : Nat → Nat → Nat} {v : za_V} (h : (za_cv ad v).category = 2) : za_isL v := by
  rcases v with x | x | x | x <;> simp [za_cv, Value.category, za_isL] at h ⊢
theorem za_kill_spec {ls : za_C} {i : Nat} {k : za_C → Prop} (h : za_kill ls i k) : ∃ l1, k l1 ∧ l1.length = ls.length ∧ ∀ (j : Nat) (w : za_V), l1[j]? = some (some w) → ls[j]? = some (some w) ∧ ¬ (j = i ∧ za_isL w) := by
  unfold za_kill at h
  split at h
  · obtain ⟨h1, h2⟩ := za_set_spec h
    refine ⟨_, h2, by simp, fun j w hj => ?_⟩
    rw [List.getElem?_set] at hj
    by_cases e : i = j
    · subst e
      simp [h1] at hj
    · rw [if_neg e] at hj
      exact ⟨hj, fun q => e q.1.symm⟩
  · rename_i hn
    refine ⟨ls, h, rfl, fun j w hj => ⟨hj, fun q => ?_⟩⟩
    obtain ⟨rfl, hw⟩ := q
    rcases w with x | x | x | x <;> simp [za_isL] at hw
    exact hn x (by rw [za_n_eq]; exact hj)
theorem za_pre_spec {ls : za_C} {i : Nat} {k : za_C → Prop} (h : za_pre ls i k) : ∃ l1, k l1 ∧ l1.length = ls.length ∧ ∀ (j : Nat) (w : za_V), l1[j]? = some (some w) → ls[j]? = some (some w) ∧ ¬ (j + 1 = i ∧ za_isL w) := by
  cases i with
  | zero => exact ⟨ls, h, rfl, fun j w hj => ⟨hj, fun q => by omega⟩⟩
  | succ i =>
    obtain ⟨l1, h1, h2, h3⟩ := za_kill_spec (show za_kill ls i k from h)
    exact ⟨l1, h1, h2, fun j w hj => ⟨(h3 j w hj).1, fun q => (h3 j w hj).2 ⟨by omega, q.2⟩⟩⟩
theorem za_st1_spec {ls : za_C} {i : Nat} {v : za_V} {k : za_C → Prop} (h : za_st1 ls i v k) : i < ls.length ∧ ∃ l1, k l1 ∧ l1.length = ls.length ∧ ∀ (j : Nat) (w : za_V), l1[j]? = some (some w) → (j = i ∧ w = v) ∨ (j ≠ i ∧ ls[j]? = some (some w) ∧ ¬ (j + 1 = i ∧ za_isL w)) := by
  obtain ⟨l1, h1, h2, h3⟩ := za_pre_spec (show za_pre ls i _ from h)
  obtain ⟨h4, h5⟩ := za_set_spec h1
  refine ⟨by omega, _, h5, by simp [h2], fun j w hj => ?_⟩
  rw [List.getElem?_set] at hj
  by_cases e : i = j
  · subst e
    simp [h4] at hj
    exact Or.inl ⟨rfl, hj.symm⟩
  · rw [if_neg e] at hj
    exact Or.inr ⟨fun q => e q.symm, h3 j w hj⟩
theorem za_st2_spec {ls : za_C} {i : Nat} {v : za_V} {k : za_C → Prop} (h : za_st2 ls i v k) : i + 1 < ls.length ∧ ∃ l1, k l1 ∧ l1.length = ls.length ∧ ∀ (j : Nat) (w : za_V), l1[j]? = some (some w) → (j = i ∧ w = v) ∨ (j ≠ i ∧ j ≠ i + 1 ∧ ls[j]? = some (some w) ∧ ¬ (j + 1 = i ∧ za_isL w)) := by
  obtain ⟨l1, h1, h2, h3⟩ := za_pre_spec (show za_pre ls i _ from h)
  obtain ⟨h4, h5⟩ := za_set_spec h1
  obtain ⟨h6, h7⟩ := za_set_spec h5
  refine ⟨by simp at h6; omega, _, h7, by simp [h2], fun j w hj => ?_⟩
  rw [List.getElem?_set] at hj
  by_cases e2 : i + 1 = j
  · subst e2
    simp at h6
    simp [h6] at hj
  · rw [if_neg e2, List.getElem?_set] at hj
    by_cases e : i = j
    · subst e
      simp [h4] at hj
      exact Or.inl ⟨rfl, hj.symm⟩
    · rw [if_neg e] at hj
      exact Or.inr ⟨fun q => e q.symm, fun q => e2 q.symm, h3 j w hj⟩
/-- the locals as the kit lists them -/
def za_lv (ad : Nat → Nat → Nat) (ls : za_C) : List (Nat × Value) := (List.range ls.length).filterMap (fun i => match ls[i]? with
  | some (some v) => some (i, za_cv ad v)
  | _ => none)
theorem za_lv_mem {ad : Nat → Nat → Nat} {ls : za_C} {i : Nat} {v : za_V} (h : ls[i]? = some (some v)) : (i, za_cv ad v) ∈ za_lv ad ls := by
  refine List.mem_filterMap.mpr ⟨i, List.mem_range.mpr (List.getElem?_eq_some_iff.mp h).1, ?_⟩
  simp [h]
theorem za_lo.at {ad : Nat → Nat → Nat} {nL : Nat} {ls : za_C} {lc : Array Slot} (h : za_lo ad nL ls lc) {i : Nat} {v : za_V} (hv : za_n ls i = some (some v)) : lc[i]? = some (.val (za_cv ad v)) := h.2.2.2 i v hv
theorem za_lo.has {ad : Nat → Nat → Nat} {nL : Nat} {ls : za_C} {lc : Array Slot} (h : za_lo ad nL ls lc) : lv_has lc nL (za_lv ad ls) := by
  refine ⟨h.2.1, h.2.2.1, fun q hq => ?_⟩
  obtain ⟨i, -, hi⟩ := List.mem_filterMap.mp hq
  split at hi
  · rename_i v hv
    cases hi
    exact h.2.2.2 i v (by rw [za_n_eq]; exact hv)
  · cases hi
theorem za_lo.st1 {ad : Nat → Nat → Nat} {nL : Nat} {ls l1 : za_C} {lc lc' : Array Slot} {i : Nat} {v : za_V} (h : za_lo ad nL ls lc) (hl : l1.length = ls.length) (hs : ∀ (j : Nat) (w : za_V), l1[j]? = some (some w) → (j = i ∧ w = v) ∨ (j ≠ i ∧ ls[j]? = some (some w) ∧ ¬ (j + 1 = i ∧ za_isL w)))
    (h' : lv_has lc' nL ((i, za_cv ad v) :: (za_lv ad ls).filter (fun q => !(q.1 == i) && !(q.1 + 1 == i && q.2.category == 2)))) : za_lo ad nL l1 lc' := by
  refine ⟨hl.trans h.1, h'.1, h'.2.1, fun j w hj => ?_⟩
  rw [za_n_eq] at hj
  rcases hs j w hj with ⟨rfl, rfl⟩ | ⟨h1, h2, h3⟩
  · exact h'.2.2 _ List.mem_cons_self
  · refine h'.2.2 (j, za_cv ad w) (List.mem_cons_of_mem _ (List.mem_filter.mpr ⟨za_lv_mem h2, ?_⟩))
    have h4 : ¬ (j + 1 = i ∧ (za_cv ad w).category = 2) := fun q => h3 ⟨q.1, za_cat2 q.2⟩
    simp only [Bool.and_eq_true, Bool.not_eq_true', beq_eq_false_iff_ne, Bool.and_eq_false_iff]
    refine ⟨h1, ?_⟩
    by_cases e : j + 1 = i
    · exact Or.inr (fun q => h4 ⟨e, q⟩)
    · exact Or.inl e
theorem za_lo.st2 {ad : Nat → Nat → Nat} {nL : Nat} {ls l1 : za_C} {lc lc' : Array Slot} {i : Nat} {v : za_V} (h : za_lo ad nL ls lc) (hl : l1.length = ls.length) (hs : ∀ (j : Nat) (w : za_V), l1[j]? = some (some w) → (j = i ∧ w = v) ∨ (j ≠ i ∧ j ≠ i + 1 ∧ ls[j]? = some (some w) ∧ ¬ (j + 1 = i ∧ za_isL w)))
    (h' : lv_has lc' nL ((i, za_cv ad v) :: (za_lv ad ls).filter (fun q => !(q.1 == i) && (!(q.1 == i + 1) && !(q.1 + 1 == i && q.2.category == 2))))) : za_lo ad nL l1 lc' := by
  refine ⟨hl.trans h.1, h'.1, h'.2.1, fun j w hj => ?_⟩
  rw [za_n_eq] at hj
  rcases hs j w hj with ⟨rfl, rfl⟩ | ⟨h1, h0, h2, h3⟩
  · exact h'.2.2 _ List.mem_cons_self
  · refine h'.2.2 (j, za_cv ad w) (List.mem_cons_of_mem _ (List.mem_filter.mpr ⟨za_lv_mem h2, ?_⟩))
    have h4 : ¬ (j + 1 = i ∧ (za_cv ad w).category = 2) := fun q => h3 ⟨q.1, za_cat2 q.2⟩
    simp only [Bool.and_eq_true, Bool.not_eq_true', beq_eq_false_iff_ne, Bool.and_eq_false_iff]
    refine ⟨h1, h0, ?_⟩
    by_cases e : j + 1 = i
    · exact Or.inr (fun q => h4 ⟨e, q⟩)
    · exact Or.inl e
theorem za_okc.st1 {cn : Nat → Nat} {ls l1 : za_C} {i : Nat} {v : za_V} (h : za_okc cn ls) (hv : za_ok cn v) (hs : ∀ (j : Nat) (w : za_V), l1[j]? = some (some w) → (j = i ∧ w = v) ∨ (j ≠ i ∧ ls[j]? = some (some w) ∧ ¬ (j + 1 = i ∧ za_isL w))) : za_okc cn l1 := by
  intro j w hj
  rw [za_n_eq] at hj
  rcases hs j w hj with ⟨rfl, rfl⟩ | ⟨-, h2, -⟩
  · exact hv
  · exact h j w (by rw [za_n_eq]; exact h2)
theorem za_okc.st2 {cn : Nat → Nat} {ls l1 : za_C} {i : Nat} {v : za_V} (h : za_okc cn ls) (hv : za_ok cn v) (hs : ∀ (j : Nat) (w : za_V), l1[j]? = some (some w) → (j = i ∧ w = v) ∨ (j ≠ i ∧ j ≠ i + 1 ∧ ls[j]? = some (some w) ∧ ¬ (j + 1 = i ∧ za_isL w))) : za_okc cn l1 := by
  intro j w hj
  rw [za_n_eq] at hj
  rcases hs j w hj with ⟨rfl, rfl⟩ | ⟨-, -, h2, -⟩
  · exact hv
  · exact h j w (by rw [za_n_eq]; exact h2)
end
section
/-! a place in the code, over the layout -/
def za_Z (p : Program) (l : Launch) (e : Env) (R : Room) (s : State) (m : MethodId) (args : Array Value) (below : List Frame) (meth : Method) (c : Code) (Λ : List za_S) (cn : Nat → Nat) (ad : Nat → Nat → Nat) (ca : Nat → ClassId) (D : va_G) (cl : List vw_C) (A : Nat → Prop) (nL : Nat) (Q : State → Prop) (pc : Nat) : za_K := fun ls st μ κ =>
  za_oks cn st → za_okc cn ls → ∀ (lc : Array Slot) (H : Heap) (locs : List Loc), za_lo ad nL ls lc → va_P D cl (za_ws Λ cn ad ca μ) H → va_S A s.heap H locs → W p l e R s m args below meth c H locs κ.1 κ.2 Q (F0 m pc lc (st.map (za_cv ad)))
theorem za_ldI_spec {ls : za_C} {i : Nat} {k : Int32 → Prop} (h : za_ldI ls i k) : ∃ x, za_n ls i = some (some (.inl x)) ∧ k x := by
  unfold za_ldI at h
  split at h
  · rename_i x hx; exact ⟨x, hx, h⟩
  · exact h.elim
theorem za_ldL_spec {ls : za_C} {i : Nat} {k : Int64 → Prop} (h : za_ldL ls i k) : ∃ x, za_n ls i = some (some (.inr (.inl x))) ∧ k x := by
  unfold za_ldL at h
  split at h
  · rename_i x hx; exact ⟨x, hx, h⟩
  · exact h.elim
theorem za_ldA_spec {ls : za_C} {i : Nat} {k : za_V → Prop} (h : za_ldA ls i k) : ∃ r, za_n ls i = some (some (.inr (.inr r))) ∧ k (.inr (.inr r)) := by
  unfold za_ldA at h
  split at h
  · rename_i x hx; exact ⟨x, hx, h⟩
  · exact h.elim
theorem za_1_spec {st : List za_V} {k : Int32 → List za_V → Prop} (h : za_1 st k) : ∃ x t, st = .inl x :: t ∧ k x t := by
  unfold za_1 at h
  split at h
  · rename_i x t; exact ⟨x, t, rfl, h⟩
  · exact h.elim
theorem za_2_spec {st : List za_V} {k : Int32 → Int32 → List za_V → Prop} (h : za_2 st k) : ∃ x y t, st = .inl y :: .inl x :: t ∧ k x y t := by
  unfold za_2 at h
  split at h
  · rename_i y x t; exact ⟨x, y, t, rfl, h⟩
  · exact h.elim
theorem za_L1_spec {st : List za_V} {k : Int64 → List za_V → Prop} (h : za_L1 st k) : ∃ x t, st = .inr (.inl x) :: t ∧ k x t := by
  unfold za_L1 at h
  split at h
  · rename_i x t; exact ⟨x, t, rfl, h⟩
  · exact h.elim
theorem za_L2_spec {st : List za_V} {k : Int64 → Int64 → List za_V → Prop} (h : za_L2 st k) : ∃ x y t, st = .inr (.inl y) :: .inr (.inl x) :: t ∧ k x y t := by
  unfold za_L2 at h
  split at h
  · rename_i y x t; exact ⟨x, y, t, rfl, h⟩
  · exact h.elim
theorem za_LI_spec {st : List za_V} {k : Int64 → Int32 → List za_V → Prop} (h : za_LI st k) : ∃ x y t, st = .inl y :: .inr (.inl x) :: t ∧ k x y t := by
  unfold za_LI at h
  split at h
  · rename_i y x t; exact ⟨x, y, t, rfl, h⟩
  · exact h.elim
theorem za_A1_spec {st : List za_V} {k : za_V → List za_V → Prop} (h : za_A1 st k) : ∃ r t, st = .inr (.inr r) :: t ∧ k (.inr (.inr r)) t := by
  unfold za_A1 at h
  split at h
  · rename_i x t; exact ⟨x, t, rfl, h⟩
  · exact h.elim
theorem za_cvA (ad : Nat → Nat → Nat) (r : (Nat × Nat) ⊕ Nat) : ∃ a : Nat, za_cv ad (.inr (.inr r)) = .ref a := by
  rcases r with q | a
  · exact ⟨_, rfl⟩
  · exact ⟨_, rfl⟩
section ZB
variable {p : Program} {l : Launch} {e : Env} {R : Room} {s : State} {m : MethodId} {args : Array Value} {below : List Frame} {meth : Method} {c : Code} {Q : State → Prop}
variable {Λ : List za_S} {cn : Nat → Nat} {ad : Nat → Nat → Nat} {ca : Nat → ClassId} {D : va_G} {cl : List vw_C} {A : Nat → Prop} {nL : Nat} {cc : ByteArray} {pc nx : Nat} {ls : za_C} {st st' : List za_V} {μ : za_M} {κ : Nat × Nat}
theorem zb_st (k : za_Z p l e R s m args below meth c Λ cn ad ca D cl A nL Q nx ls st' μ κ) (h : ∀ (lc : Array Slot) (H : Heap) (locs : List Loc), W p l e R s m args below meth c H locs κ.1 κ.2 Q (F0 m nx lc (st'.map (za_cv ad))) → W p l e R s m args below meth c H locs κ.1 κ.2 Q (F0 m pc lc (st.map (za_cv ad)))) (hok : za_oks cn st → za_oks cn st') : za_Z p l e R s m args below meth c Λ cn ad ca D cl A nL Q pc ls st μ κ := fun h1 h2 lc H locs h3 h4 h5 => h lc H locs (k (hok h1) h2 lc H locs h3 h4 h5)
theorem zb_ld {v : za_V} {i : Nat} (hv : za_n ls i = some (some v)) (h : ∀ (lc : Array Slot) (H : Heap) (locs : List Loc), lc[i]? = some (.val (za_cv ad v)) → W p l e R s m args below meth c H locs κ.1 κ.2 Q (F0 m nx lc (za_cv ad v :: st.map (za_cv ad))) → W p l e R s m args below meth c H locs κ.1 κ.2 Q (F0 m pc lc (st.map (za_cv ad))))
    (k : za_Z p l e R s m args below meth c Λ cn ad ca D cl A nL Q nx ls (v :: st) μ κ) : za_Z p l e R s m args below meth c Λ cn ad ca D cl A nL Q pc ls st μ κ := fun h1 h2 lc H locs h3 h4 h5 => h lc H locs (h3.at hv) (k ⟨h2 i v hv, h1⟩ h2 lc H locs h3 h4 h5)
theorem zb_br {cd : Jvm.ClassFile.Cond} {x y : Int32} {tgt : Nat} (h : ∀ (lc : Array Slot) (H : Heap) (locs : List Loc), za_br cd x y (W p l e R s m args below meth c H locs κ.1 κ.2 Q (F0 m tgt lc (st'.map (za_cv ad)))) (W p l e R s m args below meth c H locs κ.1 κ.2 Q (F0 m nx lc (st'.map (za_cv ad)))) → W p l e R s m args below meth c H locs κ.1 κ.2 Q (F0 m pc lc (st.map (za_cv ad)))) (hok : za_oks cn st → za_oks cn st')
    (k : za_br cd x y (za_Z p l e R s m args below meth c Λ cn ad ca D cl A nL Q tgt ls st' μ κ) (za_Z p l e R s m args below meth c Λ cn ad ca D cl A nL Q nx ls st' μ κ)) : za_Z p l e R s m args below meth c Λ cn ad ca D cl A nL Q pc ls st μ κ := by
  intro h1 h2 lc H locs h3 h4 h5
  refine h lc H locs ?_
  cases cd <;> exact ⟨fun q => k.1 q (hok h1) h2 lc H locs h3 h4 h5, fun q => k.2 q (hok h1) h2 lc H locs h3 h4 h5⟩
theorem za_br_mono {cd : Jvm.ClassFile.Cond} {x y : Int32} {A1 B1 A2 B2 : Prop} (ha : A1 → A2) (hb : B1 → B2) (h : za_br cd x y A1 B1) : za_br cd x y A2 B2 := by
  cases cd <;> exact ⟨fun q => ha (h.1 q), fun q => hb (h.2 q)⟩
theorem zb_if (hexec : p.tables.exec = Jvm.exec) (hb : c.code = cc) {cd : Jvm.ClassFile.Cond} {x : Int32} {off : Int} {tgt : Nat} (hdg : decode cc pc = .ok (.ifCond cd off, 3)) (ht : (pc : Int) + off = (tgt : Int)) {lc : Array Slot} {H : Heap} {locs : List Loc} {rest : List Value}
    (h : za_br cd x 0 (W p l e R s m args below meth c H locs κ.1 κ.2 Q (F0 m tgt lc rest)) (W p l e R s m args below meth c H locs κ.1 κ.2 Q (F0 m (pc + 3) lc rest))) : W p l e R s m args below meth c H locs κ.1 κ.2 Q (F0 m pc lc (.int x :: rest)) := by
  cases cd
  · exact lv_if_eq hexec hb hdg ht h.1 h.2
  · exact lv_if_ne hexec hb hdg ht h.1 h.2
  · exact lv_if_lt hexec hb hdg ht h.1 h.2
  · exact lv_if_ge hexec hb hdg ht h.1 h.2
  · exact lv_if_gt hexec hb hdg ht h.1 h.2
  · exact lv_if_le hexec hb hdg ht h.1 h.2
theorem zb_icmp (hexec : p.tables.exec = Jvm.exec) (hb : c.code = cc) {cd : Jvm.ClassFile.Cond} {x y : Int32} {off : Int} {tgt : Nat} (hdg : decode cc pc = .ok (.if_icmp cd off, 3)) (ht : (pc : Int) + off = (tgt : Int)) {lc : Array Slot} {H : Heap} {locs : List Loc} {rest : List Value}
    (h : za_br cd x y (W p l e R s m args below meth c H locs κ.1 κ.2 Q (F0 m tgt lc rest)) (W p l e R s m args below meth c H locs κ.1 κ.2 Q (F0 m (pc + 3) lc rest))) : W p l e R s m args below meth c H locs κ.1 κ.2 Q (F0 m pc lc (.int y :: .int x :: rest)) := by
  cases cd
  · exact lv_icmp_eq hexec hb hdg ht h.1 h.2
  · exact lv_icmp_ne hexec hb hdg ht h.1 h.2
  · exact lv_icmp_lt hexec hb hdg ht h.1 h.2
  · exact lv_icmp_ge hexec hb hdg ht h.1 h.2
  · exact lv_icmp_gt hexec hb hdg ht h.1 h.2
  · exact lv_icmp_le hexec hb hdg ht h.1 h.2
/-- stores into locals -/
theorem zb_s1 {i : Nat} {v : za_V} (hv : za_ok cn v) (hst : za_oks cn st → za_oks cn st') (h : ∀ (lc : Array Slot) (H : Heap) (locs : List Loc) (lv : List (Nat × Value)), lv_has lc nL lv → i < nL → (∀ lc' : Array Slot, lv_has lc' nL ((i, za_cv ad v) :: lv.filter (fun q => !(q.1 == i) && !(q.1 + 1 == i && q.2.category == 2))) → W p l e R s m args below meth c H locs κ.1 κ.2 Q (F0 m nx lc' (st'.map (za_cv ad)))) → W p l e R s m args below meth c H locs κ.1 κ.2 Q (F0 m pc lc (st.map (za_cv ad))))
    (k : za_st1 ls i v (fun l1 => za_Z p l e R s m args below meth c Λ cn ad ca D cl A nL Q nx l1 st' μ κ)) : za_Z p l e R s m args below meth c Λ cn ad ca D cl A nL Q pc ls st μ κ := by
  intro h1 h2 lc H locs h3 h4 h5
  obtain ⟨hi, l1, hk, hl, hs⟩ := za_st1_spec k
  exact h lc H locs _ h3.has (by rw [← h3.1]; exact hi) (fun lc' h' => hk (hst h1) (h2.st1 hv hs) lc' H locs (h3.st1 hl hs h') h4 h5)
theorem zb_s2 {i : Nat} {v : za_V} (hv : za_ok cn v) (hst : za_oks cn st → za_oks cn st') (h : ∀ (lc : Array Slot) (H : Heap) (locs : List Loc) (lv : List (Nat × Value)), lv_has lc nL lv → i + 1 < nL → (∀ lc' : Array Slot, lv_has lc' nL ((i, za_cv ad v) :: lv.filter (fun q => !(q.1 == i) && (!(q.1 == i + 1) && !(q.1 + 1 == i && q.2.category == 2)))) → W p l e R s m args below meth c H locs κ.1 κ.2 Q (F0 m nx lc' (st'.map (za_cv ad)))) → W p l e R s m args below meth c H locs κ.1 κ.2 Q (F0 m pc lc (st.map (za_cv ad))))
    (k : za_st2 ls i v (fun l1 => za_Z p l e R s m args below meth c Λ cn ad ca D cl A nL Q nx l1 st' μ κ)) : za_Z p l e R s m args below meth c Λ cn ad ca D cl A nL Q pc ls st μ κ := by
  intro h1 h2 lc H locs h3 h4 h5
  obtain ⟨hi, l1, hk, hl, hs⟩ := za_st2_spec k
  exact h lc H locs _ h3.has (by rw [← h3.1]; exact hi) (fun lc' h' => hk (hst h1) (h2.st2 hv hs) lc' H locs (h3.st2 hl hs h') h4 h5)
theorem zb_inc (hexec : p.tables.exec = Jvm.exec) (hb : c.code = cc) {i : Nat} {n : Int} {x v : Int32} (hdg : decode cc pc = .ok (.iinc i n, 3)) (hn : Int32.ofInt n = v) (hx : za_n ls i = some (some (.inl x)))
    (k : za_st1 ls i (za_i (x + v)) (fun l1 => za_Z p l e R s m args below meth c Λ cn ad ca D cl A nL Q (pc + 3) l1 st μ κ)) : za_Z p l e R s m args below meth c Λ cn ad ca D cl A nL Q pc ls st μ κ := by
  intro h1 h2 lc H locs h3 h4 h5
  obtain ⟨hi, l1, hk, hl, hs⟩ := za_st1_spec k
  obtain ⟨k0, hk0⟩ := List.getElem?_of_mem (za_lv_mem (ad := ad) (ls := ls) (i := i) (v := .inl x) (by rw [← za_n_eq]; exact hx))
  exact lv_iinc (v := x + v) hexec hb hdg h3.has hk0 (by rw [hn]) (by rw [← h3.1]; exact hi) rfl (fun lc' h' => hk h1 (h2.st1 (v := za_i (x + v)) trivial hs) lc' H locs (h3.st1 (v := za_i (x + v)) hl hs h') h4 h5)
end ZB
/-! cells -/
/-- the layout is closed: what a cell names is there -/
def za_wf (Λ : List za_S) (cn : Nat → Nat) : Prop := ∀ (b : Nat) (sh : za_S), za_n Λ b = some sh →
  (sh.1 = 4 → ∀ (f : Nat) (q : Nat × Nat × Nat), za_n sh.2.2 f = some q → (q.1 = 1 → q.2.2 < cn q.2.1) ∧ (q.1 = 2 → cn b ≤ cn q.2.1)) ∧ (sh.1 = 3 → ∀ (q : Nat × Nat × Nat) (r : List (Nat × Nat × Nat)), sh.2.2 = q :: r → sh.2.1 * cn b ≤ cn q.1)
theorem za_fs_at (ad : Nat → Nat → Nat) (μ : za_M) (b j : Nat) : ∀ (fs : List (Nat × Nat × Nat)) (f0 f : Nat), (za_fs ad μ b j f0 fs)[f]? = (za_n fs f).map (za_fv ad μ b j (f0 + f))
  | [], _, _ => by simp [za_fs, za_n]
  | q :: t, f0, 0 => by simp [za_fs, za_n]
  | q :: t, f0, f + 1 => by
    simp only [za_fs, List.getElem?_cons_succ, za_n]
    rw [za_fs_at ad μ b j t (f0 + 1) f, show f0 + 1 + f = f0 + (f + 1) by omega]
theorem za_fs_len (ad : Nat → Nat → Nat) (μ : za_M) (b j : Nat) : ∀ (fs : List (Nat × Nat × Nat)) (f0 : Nat), (za_fs ad μ b j f0 fs).length = fs.length
  | [], _ => rfl
  | _ :: t, f0 => by simp [za_fs, za_fs_len ad μ b j t (f0 + 1)]
theorem za_ws_at {Λ : List za_S} {cn : Nat → Nat} (ad : Nat → Nat → Nat) (ca : Nat → ClassId) (μ : za_M) {b j : Nat} {sh : za_S} (hb : za_n Λ b = some sh) (hj : j < cn b) : ∃ q0 : Nat, (za_ps cn Λ.length)[q0]? = some (b, j) ∧ (za_ws Λ cn ad ca μ)[q0]? = some (ad b j, za_en Λ ad ca μ b j) := by
  have hlt : b < Λ.length := by rw [za_n_eq] at hb; exact (List.getElem?_eq_some_iff.mp hb).1
  obtain ⟨q0, hq⟩ := List.getElem?_of_mem (za_ps_mem.mpr (show (b, j).1 < Λ.length ∧ (b, j).2 < cn (b, j).1 from ⟨hlt, hj⟩))
  exact ⟨q0, hq, by rw [za_ws, List.getElem?_map, hq]; rfl⟩
/-- only the cell (b, j) is another -/
theorem za_ws_set {Λ : List za_S} {cn : Nat → Nat} {ad : Nat → Nat → Nat} {ca : Nat → ClassId} {μ μ' : za_M} {b j q0 : Nat} {y : va_E} (hq : (za_ps cn Λ.length)[q0]? = some (b, j)) (hy : za_en Λ ad ca μ' b j = y) (ho : ∀ b' j', ¬ (b' = b ∧ j' = j) → za_en Λ ad ca μ' b' j' = za_en Λ ad ca μ b' j') : (za_ws Λ cn ad ca μ).set q0 (ad b j, y) = za_ws Λ cn ad ca μ' := by
  refine za_map_set za_ps_nodup hq (by rw [← hy]) (fun q hne => ?_)
  rw [ho q.1 q.2 (fun h => hne (Prod.ext h.1 h.2))]
theorem za_u_ne {α : Type} {f : Nat → Nat → Nat → α} {b j i b' j' : Nat} {x : α} (h : ¬ (b' = b ∧ j' = j)) : za_u f b j i x b' j' = f b' j' := by
  funext i'
  simp only [za_u]
  rw [if_neg (fun q => h ⟨q.1, q.2.1⟩)]
theorem za_fs_congr {ad : Nat → Nat → Nat} {μ μ' : za_M} {b j : Nat} (h : μ'.1 b j = μ.1 b j) : ∀ (fs : List (Nat × Nat × Nat)) (f0 : Nat), za_fs ad μ' b j f0 fs = za_fs ad μ b j f0 fs
  | [], _ => rfl
  | q :: t, f0 => by
    simp only [za_fs, za_fs_congr h t (f0 + 1), List.cons.injEq, and_true]
    unfold za_fv
    rw [h]
theorem za_en_ne {Λ : List za_S} {ad : Nat → Nat → Nat} {ca : Nat → ClassId} {μ μ' : za_M} {b j : Nat} (h1 : μ'.1 b j = μ.1 b j) (h2 : μ'.2 b j = μ.2 b j) : za_en Λ ad ca μ' b j = za_en Λ ad ca μ b j := by
  unfold za_en
  rw [h1, h2]
  split <;> first | rfl | (rw [za_fs_congr h1])
theorem za_u_at (f : Nat → Nat → Nat → Int32) (b j i : Nat) (x : Int32) : za_u f b j i x b j = upd (f b j) i x := by
  funext i'
  by_cases h : i' = i <;> simp [za_u, upd, h]
theorem za_u_atL (f : Nat → Nat → Nat → Int64) (b j i : Nat) (x : Int64) : za_u f b j i x b j = vp_updL (f b j) i x := by
  funext i'
  by_cases h : i' = i <;> simp [za_u, vp_updL, h]
theorem za_fs_set (ad : Nat → Nat → Nat) (μ : za_M) (b j f : Nat) (x : Int32) (fs : List (Nat × Nat × Nat)) {q : Nat × Nat × Nat} (hq : za_n fs f = some q) (h0 : q.1 = 0) : (za_fs ad μ b j 0 fs).set f (.int x) = za_fs ad (za_u μ.1 b j f x, μ.2) b j 0 fs := by
  refine List.ext_getElem? fun i => ?_
  rw [List.getElem?_set, za_fs_at, za_fs_at, za_fs_len]
  by_cases h : f = i
  · subst h
    have hlt : f < fs.length := by rw [za_n_eq] at hq; exact (List.getElem?_eq_some_iff.mp hq).1
    obtain ⟨q1, q2, q3⟩ := q
    simp only at h0
    subst h0
    rw [if_pos rfl, if_pos hlt, hq]
    simp [za_fv, za_u]
  · rw [if_neg h]
    congr 1
    funext q
    unfold za_fv
    simp only [Nat.zero_add, za_u]
    have h' : ¬ i = f := fun e => h e.symm
    simp [h']
def za_ty (Λ : List za_S) (ca : Nat → ClassId) (tys : List (ClassId × FieldType)) : Prop := ∀ (b : Nat) (sh : za_S), za_n Λ b = some sh → (sh.1 = 0 → ∃ t : Nat, tys[t]? = some (ca b, .int)) ∧ (sh.1 = 1 → ∃ t : Nat, tys[t]? = some (ca b, .boolean)) ∧ (sh.1 = 2 → ∃ t : Nat, tys[t]? = some (ca b, .long)) ∧ (sh.1 = 3 → ∃ (t : Nat) (ty : FieldType), tys[t]? = some (ca b, ty) ∧ ty.isReference = true)
theorem za_ix_lt {j n i N M : Nat} (hj : j < N) (hi : i < n) (h : n * N ≤ M) : za_ix j n i < M := by
  cases j with
  | zero =>
    have : n * 1 ≤ n * N := Nat.mul_le_mul_left n (by omega)
    show i < M
    omega
  | succ j =>
    show n * (j + 1) + i < M
    have : n * (j + 1 + 1) ≤ n * N := Nat.mul_le_mul_left n (by omega)
    rw [Nat.mul_add n (j + 1) 1] at this
    omega
theorem za_vp_lt {i : Int32} {n : Nat} (h : vp_in i n) : i.toNatClampNeg < n := Nat.not_le.mp fun q => h (Or.inr q)
section ZC
variable {p : Program} {l : Launch} {e : Env} {R : Room} {s : State} {m : MethodId} {args : Array Value} {below : List Frame} {meth : Method} {c : Code} {Q : State → Prop}
variable {Λ : List za_S} {cn : Nat → Nat} {ad : Nat → Nat → Nat} {ca : Nat → ClassId} {D : va_G} {cl : List vw_C} {A : Nat → Prop} {nL : Nat} {cc : ByteArray} {pc nx : Nat} {ls : za_C} {st st' : List za_V} {μ : za_M} {κ : Nat × Nat} {tys : List (ClassId × FieldType)} {X : za_X}
theorem zc_get (hexec : p.tables.exec = Jvm.exec) (hb : c.code = cc) (hK : va_K D cl tys s) (hwf : za_wf Λ cn) {own ref C : String} {T : u_T} {N ci index f : Nat} {Ts : List Cond} (hts : ∀ w ∈ Ts, w.before args s = true) (hin : ∀ w ∈ u_ws C T N, w ∈ Ts) (hown : s.vm.findClass own = some m.cls) (hc : cl[ci]? = some (C, T, N)) (hf : f < N) (hlink : (Cond.fieldLink own index ref (T f).2.1 (T f).2.2.1).before args s = true) (hsame : ∀ x, s.fieldFound? (T f).1 (T f).2.1 (T f).2.2.1 = some x → s.fieldFound? ref (T f).2.1 (T f).2.2.1 = some x) (hdg : decode cc pc = .ok (.getfield index, 3))
    (k : za_get Λ μ ci f st (fun v t => za_Z p l e R s m args below meth c Λ cn ad ca D cl A nL Q (pc + 3) ls (v :: t) μ κ)) : za_Z p l e R s m args below meth c Λ cn ad ca D cl A nL Q pc ls st μ κ := by
  unfold za_get at k
  split at k
  · rename_i b j t
    unfold za_gf at k
    split at k
    · rename_i c' fs hΛ
      intro h1 h2 lc H locs h3 h4 h5
      obtain ⟨q0, -, hq⟩ := za_ws_at ad ca μ hΛ (show j < cn b from h1.1)
      have hen : za_en Λ ad ca μ b j = .inr (c', za_fs ad μ b j 0 fs) := by simp only [za_en, hΛ]
      rw [hen] at hq
      split at k
      · rename_i a1 a2 hbq hfq
        have hcc : c' = ci := Nat.eq_of_beq_eq_true hbq
        subst hcc
        exact va_get hexec hb hts hin hown hK h4 q0 hq hc f hf hlink hsame (v := .int (μ.1 b j f)) (by rw [za_fs_at, hfq]; simp [za_fv]) hdg (k ⟨trivial, h1.2⟩ h2 lc H locs h3 h4 h5)
      · rename_i b' j' hbq hfq
        have hcc : c' = ci := Nat.eq_of_beq_eq_true hbq
        subst hcc
        exact va_get hexec hb hts hin hown hK h4 q0 hq hc f hf hlink hsame (v := .ref (ad b' j')) (by rw [za_fs_at, hfq]; simp [za_fv]) hdg (k ⟨((hwf b _ hΛ).1 rfl f _ hfq).1 rfl, h1.2⟩ h2 lc H locs h3 h4 h5)
      · rename_i b' a1 hbq hfq
        have hcc : c' = ci := Nat.eq_of_beq_eq_true hbq
        subst hcc
        exact va_get hexec hb hts hin hown hK h4 q0 hq hc f hf hlink hsame (v := .ref (ad b' j)) (by rw [za_fs_at, hfq]; simp [za_fv]) hdg (k ⟨Nat.lt_of_lt_of_le h1.1 (((hwf b _ hΛ).1 rfl f _ hfq).2 rfl), h1.2⟩ h2 lc H locs h3 h4 h5)
      · exact k.elim
    · exact k.elim
  · exact k.elim
theorem zc_ald (hexec : p.tables.exec = Jvm.exec) (hb : c.code = cc) (hK : va_K D cl tys s) (hwf : za_wf Λ cn) (hty : za_ty Λ ca tys) (hX : X.1 = true → va_X X.2.1 X.2.2.1 X.2.2.2 s s.heap ∧ X.2.1 < s.heap.size ∧ ¬ A X.2.1) {kd : Nat} {ins : Instr} (hdg : decode cc pc = .ok (ins, 1)) (hins : (kd = 0 ∧ ins = .iaload) ∨ (kd = 1 ∧ ins = .baload) ∨ (kd = 2 ∧ ins = .laload) ∨ (kd = 3 ∧ ins = .aaload))
    (k : za_ald Λ X μ kd st (fun v t => za_Z p l e R s m args below meth c Λ cn ad ca D cl A nL Q (pc + 1) ls (v :: t) μ κ)) : za_Z p l e R s m args below meth c Λ cn ad ca D cl A nL Q pc ls st μ κ := by
  unfold za_ald at k
  split at k
  · rename_i i b j t
    unfold za_ia at k
    split at k
    · rename_i n a1 hΛ
      split at k
      · rcases hins with ⟨-, rfl⟩ | ⟨h0, -⟩ | ⟨h0, -⟩ | ⟨h0, -⟩
        · intro h1 h2 lc H locs h3 h4 h5
          obtain ⟨q0, -, hq⟩ := za_ws_at ad ca μ hΛ (show j < cn b from h1.2.1)
          have hen : za_en Λ ad ca μ b j = .inl (ca b, n, .inl (μ.1 b j)) := by simp only [za_en, hΛ]
          rw [hen] at hq
          obtain ⟨t0, ht0⟩ := (hty b _ hΛ).1 rfl
          exact va_iald hexec hb hK h4 q0 t0 hq ht0 k.1 hdg (k.2 ⟨trivial, h1.2.2⟩ h2 lc H locs h3 h4 h5)
        · cases h0
        · cases h0
        · cases h0
      · exact k.elim
    · rename_i n a1 hΛ
      split at k
      · rcases hins with ⟨h0, -⟩ | ⟨-, rfl⟩ | ⟨h0, -⟩ | ⟨h0, -⟩
        · cases h0
        · intro h1 h2 lc H locs h3 h4 h5
          obtain ⟨q0, -, hq⟩ := za_ws_at ad ca μ hΛ (show j < cn b from h1.2.1)
          have hen : za_en Λ ad ca μ b j = .inl (ca b, n, .inl (μ.1 b j)) := by simp only [za_en, hΛ]
          rw [hen] at hq
          obtain ⟨t0, ht0⟩ := (hty b _ hΛ).2.1 rfl
          exact va_zald hexec hb hK h4 q0 t0 hq ht0 k.1 hdg (k.2 ⟨trivial, h1.2.2⟩ h2 lc H locs h3 h4 h5)
        · cases h0
        · cases h0
      · exact k.elim
    · rename_i n a1 hΛ
      split at k
      · rcases hins with ⟨h0, -⟩ | ⟨h0, -⟩ | ⟨-, rfl⟩ | ⟨h0, -⟩
        · cases h0
        · cases h0
        · intro h1 h2 lc H locs h3 h4 h5
          obtain ⟨q0, -, hq⟩ := za_ws_at ad ca μ hΛ (show j < cn b from h1.2.1)
          have hen : za_en Λ ad ca μ b j = .inl (ca b, n, .inr (.inl (μ.2 b j))) := by simp only [za_en, hΛ]
          rw [hen] at hq
          obtain ⟨t0, ht0⟩ := (hty b _ hΛ).2.2.1 rfl
          exact va_lald hexec hb hK h4 q0 t0 hq ht0 k.1 hdg (k.2 ⟨trivial, h1.2.2⟩ h2 lc H locs h3 h4 h5)
        · cases h0
      · exact k.elim
    · rename_i n b' a1 a2 a3 hΛ
      split at k
      · rcases hins with ⟨h0, -⟩ | ⟨h0, -⟩ | ⟨h0, -⟩ | ⟨-, rfl⟩
        · cases h0
        · cases h0
        · cases h0
        · intro h1 h2 lc H locs h3 h4 h5
          obtain ⟨q0, -, hq⟩ := za_ws_at ad ca μ hΛ (show j < cn b from h1.2.1)
          have hen : za_en Λ ad ca μ b j = .inl (ca b, n, .inr (.inr (.inr (.inr (fun i => some (ad b' (za_ix j n i))))))) := by simp only [za_en, hΛ]
          rw [hen] at hq
          obtain ⟨t0, ty, ht0, hrf⟩ := (hty b _ hΛ).2.2.2 rfl
          have hlt := za_vp_lt k.1
          have hcell := h4 q0 _ hq
          refine W.aald (v := .ref (ad b' (za_ix j n i.toNatClampNeg))) (ty := ty) hexec hb hcell ((hK.2 t0 _ ht0).1 n _) hrf (fun q => by cases q) (by show ¬ (i < 0 ∨ (arrV _ _ _).slots.size ≤ _); rw [arrV_size]; exact k.1) (by show (arrV _ _ _).slots[_]? = _; rw [arrV_read _ _ hlt]; rfl) rfl rfl hdg ?_
          exact k.2 ⟨za_ix_lt h1.2.1 hlt ((hwf b _ hΛ).2 rfl _ _ rfl), h1.2.2⟩ h2 lc H locs h3 h4 h5
      · exact k.elim
    · exact k.elim
  · rename_i i a t
    obtain ⟨hf, h0, ha, hi, k⟩ := k
    obtain ⟨hx1, hx2, hx3⟩ := hX hf
    rcases hins with ⟨-, rfl⟩ | ⟨h9, -⟩ | ⟨h9, -⟩ | ⟨h9, -⟩
    · subst ha
      intro h1 h2 lc H locs h3 h4 h5
      exact va_sld hexec hb hx1 hx2 hx3 h5 hi hdg (k ⟨trivial, h1.2.2⟩ h2 lc H locs h3 h4 h5)
    · omega
    · omega
    · omega
  · exact k.elim
end ZC
end
section
/-! writes -/
theorem za_nar {x : Int32} (h : x = 0 ∨ x = 1) : vp_nar .boolean x = x := by
  rcases h with rfl | rfl <;> rfl
theorem za_narF {x : Int32} (h : x = 0 ∨ x = 1) : narrow .boolean (.int x) = .int x ∧ fits .boolean (.int x) = true := by
  rcases h with rfl | rfl <;> exact ⟨rfl, rfl⟩
section ZD
variable {p : Program} {l : Launch} {e : Env} {R : Room} {s : State} {m : MethodId} {args : Array Value} {below : List Frame} {meth : Method} {c : Code} {Q : State → Prop}
variable {Λ : List za_S} {cn : Nat → Nat} {ad : Nat → Nat → Nat} {ca : Nat → ClassId} {D : va_G} {cl : List vw_C} {A : Nat → Prop} {nL : Nat} {cc : ByteArray} {pc nx : Nat} {ls : za_C} {st st' : List za_V} {μ : za_M} {κ : Nat × Nat} {tys : List (ClassId × FieldType)} {X : za_X}
theorem zd_ast (hexec : p.tables.exec = Jvm.exec) (hb : c.code = cc) (hK : va_K D cl tys s) (hD : ∀ μ : za_M, va_D A (za_ws Λ cn ad ca μ)) (hty : za_ty Λ ca tys) {kd : Nat} {ins : Instr} (hdg : decode cc pc = .ok (ins, 1)) (hins : (kd = 0 ∧ ins = .iastore) ∨ (kd = 1 ∧ ins = .bastore) ∨ (kd = 2 ∧ ins = .lastore))
    (k : za_ast Λ μ kd st (fun μ1 t => za_Z p l e R s m args below meth c Λ cn ad ca D cl A nL Q (pc + 1) ls t μ1 κ)) : za_Z p l e R s m args below meth c Λ cn ad ca D cl A nL Q pc ls st μ κ := by
  unfold za_ast at k
  split at k
  · rename_i x i b j t
    unfold za_is at k
    split at k
    · rename_i n a1 hΛ
      split at k
      · rcases hins with ⟨-, rfl⟩ | ⟨h0, -⟩ | ⟨h0, -⟩
        · intro h1 h2 lc H locs h3 h4 h5
          obtain ⟨q0, hp0, hq⟩ := za_ws_at ad ca μ hΛ (show j < cn b from h1.2.2.1)
          have hen : ∀ ν : za_M, za_en Λ ad ca ν b j = .inl (ca b, n, .inl (ν.1 b j)) := by intro ν; simp only [za_en, hΛ]
          rw [hen] at hq
          obtain ⟨t0, ht0⟩ := (hty b _ hΛ).1 rfl
          refine va_iast hexec hb hK h4 (hD μ) h5 q0 t0 hq ht0 k.1 hdg (fun H1 locs1 hP1 _ hS1 => ?_)
          rw [za_ws_set (μ := μ) (ad := ad) (ca := ca) (μ' := (za_u μ.1 b j i.toNatClampNeg x, μ.2)) hp0 (by rw [hen]; simp only [za_u_at]) (fun b' j' h => za_en_ne (za_u_ne h) rfl)] at hP1
          exact k.2 h1.2.2.2 h2 lc H1 locs1 h3 hP1 hS1
        · cases h0
        · cases h0
      · exact k.elim
    · rename_i n a1 hΛ
      split at k
      · rcases hins with ⟨h0, -⟩ | ⟨-, rfl⟩ | ⟨h0, -⟩
        · cases h0
        · intro h1 h2 lc H locs h3 h4 h5
          obtain ⟨q0, hp0, hq⟩ := za_ws_at ad ca μ hΛ (show j < cn b from h1.2.2.1)
          have hen : ∀ ν : za_M, za_en Λ ad ca ν b j = .inl (ca b, n, .inl (ν.1 b j)) := by intro ν; simp only [za_en, hΛ]
          rw [hen] at hq
          obtain ⟨t0, ht0⟩ := (hty b _ hΛ).2.1 rfl
          refine va_zast hexec hb hK h4 (hD μ) h5 q0 t0 hq ht0 k.1 hdg (fun H1 locs1 hP1 _ hS1 => ?_)
          rw [za_ws_set (μ := μ) (ad := ad) (ca := ca) (μ' := (za_u μ.1 b j i.toNatClampNeg x, μ.2)) hp0 (by rw [hen, za_nar k.2.1]; simp only [za_u_at]) (fun b' j' h => za_en_ne (za_u_ne h) rfl)] at hP1
          exact k.2.2 h1.2.2.2 h2 lc H1 locs1 h3 hP1 hS1
        · cases h0
      · exact k.elim
    · exact k.elim
  · rename_i x i b j t
    split at k
    · rcases hins with ⟨h0, -⟩ | ⟨h0, -⟩ | ⟨-, rfl⟩
      · cases h0
      · cases h0
      · unfold za_ls at k
        split at k
        · rename_i n a1 hΛ
          intro h1 h2 lc H locs h3 h4 h5
          obtain ⟨q0, hp0, hq⟩ := za_ws_at ad ca μ hΛ (show j < cn b from h1.2.2.1)
          have hen : ∀ ν : za_M, za_en Λ ad ca ν b j = .inl (ca b, n, .inr (.inl (ν.2 b j))) := by intro ν; simp only [za_en, hΛ]
          rw [hen] at hq
          obtain ⟨t0, ht0⟩ := (hty b _ hΛ).2.2.1 rfl
          refine va_last hexec hb hK h4 (hD μ) h5 q0 t0 hq ht0 k.1 hdg (fun H1 locs1 hP1 _ hS1 => ?_)
          rw [za_ws_set (μ := μ) (ad := ad) (ca := ca) (μ' := (μ.1, za_u μ.2 b j i.toNatClampNeg x)) hp0 (by rw [hen]; simp only [za_u_atL]) (fun b' j' h => za_en_ne rfl (za_u_ne h))] at hP1
          exact k.2 h1.2.2.2 h2 lc H1 locs1 h3 hP1 hS1
        · exact k.elim
    · exact k.elim
  · exact k.elim
theorem zd_len (hexec : p.tables.exec = Jvm.exec) (hb : c.code = cc) (hK : va_K D cl tys s) (hty : za_ty Λ ca tys) (hX : X.1 = true → va_X X.2.1 X.2.2.1 X.2.2.2 s s.heap ∧ X.2.1 < s.heap.size ∧ ¬ A X.2.1) (hdg : decode cc pc = .ok (.arraylength, 1))
    (k : za_len Λ X st (fun x t => za_Z p l e R s m args below meth c Λ cn ad ca D cl A nL Q (pc + 1) ls (za_i x :: t) μ κ)) : za_Z p l e R s m args below meth c Λ cn ad ca D cl A nL Q pc ls st μ κ := by
  unfold za_len at k
  split at k
  · rename_i b j t
    unfold za_al at k
    split at k
    · rename_i n a1 hΛ
      intro h1 h2 lc H locs h3 h4 h5
      obtain ⟨q0, -, hq⟩ := za_ws_at ad ca μ hΛ (show j < cn b from h1.1)
      have hen : za_en Λ ad ca μ b j = .inl (ca b, n, .inl (μ.1 b j)) := by simp only [za_en, hΛ]
      rw [hen] at hq
      obtain ⟨t0, ht0⟩ := (hty b _ hΛ).1 rfl
      exact va_alen hexec hb hK h4 q0 t0 hq ht0 (v := nI n) rfl hdg (k ⟨trivial, h1.2⟩ h2 lc H locs h3 h4 h5)
    · rename_i n a1 hΛ
      intro h1 h2 lc H locs h3 h4 h5
      obtain ⟨q0, -, hq⟩ := za_ws_at ad ca μ hΛ (show j < cn b from h1.1)
      have hen : za_en Λ ad ca μ b j = .inl (ca b, n, .inl (μ.1 b j)) := by simp only [za_en, hΛ]
      rw [hen] at hq
      obtain ⟨t0, ht0⟩ := (hty b _ hΛ).2.1 rfl
      exact va_alen hexec hb hK h4 q0 t0 hq ht0 (v := nI n) rfl hdg (k ⟨trivial, h1.2⟩ h2 lc H locs h3 h4 h5)
    · rename_i n a1 hΛ
      intro h1 h2 lc H locs h3 h4 h5
      obtain ⟨q0, -, hq⟩ := za_ws_at ad ca μ hΛ (show j < cn b from h1.1)
      have hen : za_en Λ ad ca μ b j = .inl (ca b, n, .inr (.inl (μ.2 b j))) := by simp only [za_en, hΛ]
      rw [hen] at hq
      obtain ⟨t0, ht0⟩ := (hty b _ hΛ).2.2.1 rfl
      exact va_alen hexec hb hK h4 q0 t0 hq ht0 (v := nI n) rfl hdg (k ⟨trivial, h1.2⟩ h2 lc H locs h3 h4 h5)
    · rename_i n a1 a2 hΛ
      intro h1 h2 lc H locs h3 h4 h5
      obtain ⟨q0, -, hq⟩ := za_ws_at ad ca μ hΛ (show j < cn b from h1.1)
      obtain ⟨b', z1, z2⟩ := a1
      have hen : za_en Λ ad ca μ b j = .inl (ca b, n, .inr (.inr (.inr (.inr (fun i => some (ad b' (za_ix j n i))))))) := by simp only [za_en, hΛ]
      rw [hen] at hq
      obtain ⟨t0, ty, ht0, -⟩ := (hty b _ hΛ).2.2.2 rfl
      exact va_alen hexec hb hK h4 q0 t0 hq ht0 (v := nI n) rfl hdg (k ⟨trivial, h1.2⟩ h2 lc H locs h3 h4 h5)
    · exact k.elim
  · rename_i a t
    obtain ⟨hf, ha, k⟩ := k
    obtain ⟨hx1, hx2, hx3⟩ := hX hf
    subst ha
    intro h1 h2 lc H locs h3 h4 h5
    exact va_slen hexec hb hx1 hx2 hx3 h5 hdg (k ⟨trivial, h1.2⟩ h2 lc H locs h3 h4 h5)
  · exact k.elim
theorem zd_put (hexec : p.tables.exec = Jvm.exec) (hb : c.code = cc) (hK : va_K D cl tys s) (hD : ∀ μ : za_M, va_D A (za_ws Λ cn ad ca μ)) {own ref C : String} {T : u_T} {N ci index f : Nat} {Ts : List Cond} (hts : ∀ w ∈ Ts, w.before args s = true) (hin : ∀ w ∈ u_ws C T N, w ∈ Ts) (ty0 : Nat → FieldType) (hty0 : ∀ k, k < N → parseFieldDescriptor (T k).2.2.1 = some (ty0 k)) (hnm : ∀ a, a < N → ∀ b, b < N → a ≠ b → (T a).2.1 ≠ (T b).2.1) (hown : s.vm.findClass own = some m.cls) (hc : cl[ci]? = some (C, T, N)) (hf : f < N) (hlink : (Cond.fieldLink own index ref (T f).2.1 (T f).2.2.1).before args s = true) (hsame : ∀ x, s.fieldFound? (T f).1 (T f).2.1 (T f).2.2.1 = some x → s.fieldFound? ref (T f).2.1 (T f).2.2.1 = some x) (hfin : (T f).2.2.2 = false)
    (hfty : ∀ (b : Nat) (fs : List (Nat × Nat × Nat)) (q : Nat), za_n Λ b = some (4, ci, fs) → (∀ z, za_n fs f = some (0, 0, z) → ty0 f = .int) ∧ (∀ z, za_n fs f = some (0, 1, z) → ty0 f = .boolean)) (hdg : decode cc pc = .ok (.putfield index, 3))
    (k : za_put Λ μ ci f st (fun μ1 t => za_Z p l e R s m args below meth c Λ cn ad ca D cl A nL Q (pc + 3) ls t μ1 κ)) : za_Z p l e R s m args below meth c Λ cn ad ca D cl A nL Q pc ls st μ κ := by
  unfold za_put at k
  split at k
  · rename_i x b j t
    unfold za_pf at k
    split at k
    · rename_i c' fs hΛ
      intro h1 h2 lc H locs h3 h4 h5
      obtain ⟨q0, hp0, hq⟩ := za_ws_at ad ca μ hΛ (show j < cn b from h1.2.1)
      have hen : ∀ ν : za_M, za_en Λ ad ca ν b j = .inr (c', za_fs ad ν b j 0 fs) := by intro ν; simp only [za_en, hΛ]
      rw [hen] at hq
      split at k
      · rename_i a2 hbq hfq
        have hcc : c' = ci := Nat.eq_of_beq_eq_true hbq
        subst hcc
        have hl : f < (za_fs ad μ b j 0 fs).length := by rw [za_fs_len]; rw [za_n_eq] at hfq; exact (List.getElem?_eq_some_iff.mp hfq).1
        refine va_put hexec hb hts hin ty0 hty0 hnm hown hK h4 (hD μ) h5 q0 hq hc f hf hlink hsame hfin (ty := .int) (v := .int x) (by rw [hty0 f hf, (hfty b fs 0 hΛ).1 _ hfq]) rfl rfl hl hdg (fun H1 locs1 hP1 _ hS1 => ?_)
        rw [za_ws_set (μ := μ) (ad := ad) (ca := ca) (μ' := (za_u μ.1 b j f x, μ.2)) hp0 (by rw [hen, za_fs_set ad μ b j f x fs hfq rfl]) (fun b' j' h => za_en_ne (za_u_ne h) rfl)] at hP1
        exact k h1.2.2 h2 lc H1 locs1 h3 hP1 hS1
      · rename_i a2 hbq hfq
        have hcc : c' = ci := Nat.eq_of_beq_eq_true hbq
        subst hcc
        have hl : f < (za_fs ad μ b j 0 fs).length := by rw [za_fs_len]; rw [za_n_eq] at hfq; exact (List.getElem?_eq_some_iff.mp hfq).1
        refine va_put hexec hb hts hin ty0 hty0 hnm hown hK h4 (hD μ) h5 q0 hq hc f hf hlink hsame hfin (ty := .boolean) (v := .int x) (by rw [hty0 f hf, (hfty b fs 0 hΛ).2 _ hfq]) (za_narF k.1).1 (za_narF k.1).2 hl hdg (fun H1 locs1 hP1 _ hS1 => ?_)
        rw [za_ws_set (μ := μ) (ad := ad) (ca := ca) (μ' := (za_u μ.1 b j f x, μ.2)) hp0 (by rw [hen, za_fs_set ad μ b j f x fs hfq rfl]) (fun b' j' h => za_en_ne (za_u_ne h) rfl)] at hP1
        exact k.2 h1.2.2 h2 lc H1 locs1 h3 hP1 hS1
      · exact k.elim
    · exact k.elim
  · exact k.elim
end ZD
end
section
/-! going on is monotone -/
theorem za_set_mono {α : Type} {l : List α} {i : Nat} {v : α} {k k' : List α → Prop} (hk : ∀ l, k l → k' l) (h : za_set l i v k) : za_set l i v k' := by
  induction l generalizing i k k' with
  | nil => exact h.elim
  | cons a t ih =>
    cases i with
    | zero => exact hk _ h
    | succ i => exact ih (k := fun t' => k (a :: t')) (k' := fun t' => k' (a :: t')) (fun l h => hk _ h) h
theorem za_kill_mono {ls : za_C} {i : Nat} {k k' : za_C → Prop} (hk : ∀ l, k l → k' l) (h : za_kill ls i k) : za_kill ls i k' := by
  revert h
  unfold za_kill
  split
  · exact za_set_mono hk
  · exact hk _
theorem za_pre_mono {ls : za_C} {i : Nat} {k k' : za_C → Prop} (hk : ∀ l, k l → k' l) (h : za_pre ls i k) : za_pre ls i k' := by
  cases i with
  | zero => exact hk _ h
  | succ i => exact za_kill_mono hk h
theorem za_st1_mono {ls : za_C} {i : Nat} {v : za_V} {k k' : za_C → Prop} (hk : ∀ l, k l → k' l) (h : za_st1 ls i v k) : za_st1 ls i v k' := za_pre_mono (fun _ h => za_set_mono hk h) h
theorem za_st2_mono {ls : za_C} {i : Nat} {v : za_V} {k k' : za_C → Prop} (hk : ∀ l, k l → k' l) (h : za_st2 ls i v k) : za_st2 ls i v k' := za_pre_mono (fun _ h => za_set_mono (fun _ h => za_set_mono hk h) h) h
theorem za_gf_mono {Λ : List za_S} {μ : za_M} {b j c f : Nat} {k k' : za_V → Prop} (hk : ∀ v, k v → k' v) (h : za_gf Λ μ b j c f k) : za_gf Λ μ b j c f k' := by
  revert h
  unfold za_gf
  split
  · split
    · exact hk _
    · exact hk _
    · exact hk _
    · exact id
  · exact id
theorem za_pf_mono {Λ : List za_S} {μ : za_M} {b j c f : Nat} {x : Int32} {k k' : za_M → Prop} (hk : ∀ v, k v → k' v) (h : za_pf Λ μ b j c f x k) : za_pf Λ μ b j c f x k' := by
  revert h
  unfold za_pf
  split
  · split
    · exact hk _
    · exact fun h => ⟨h.1, hk _ h.2⟩
    · exact id
  · exact id
theorem za_ia_mono {Λ : List za_S} {μ : za_M} {kd b j : Nat} {i : Int32} {k k' : za_V → Prop} (hk : ∀ v, k v → k' v) (h : za_ia Λ μ kd b j i k) : za_ia Λ μ kd b j i k' := by
  revert h
  unfold za_ia
  split
  · split
    · exact fun h => ⟨h.1, hk _ h.2⟩
    · exact id
  · split
    · exact fun h => ⟨h.1, hk _ h.2⟩
    · exact id
  · split
    · exact fun h => ⟨h.1, hk _ h.2⟩
    · exact id
  · split
    · exact fun h => ⟨h.1, hk _ h.2⟩
    · exact id
  · exact id
theorem za_is_mono {Λ : List za_S} {μ : za_M} {kd b j : Nat} {i x : Int32} {k k' : za_M → Prop} (hk : ∀ v, k v → k' v) (h : za_is Λ μ kd b j i x k) : za_is Λ μ kd b j i x k' := by
  revert h
  unfold za_is
  split
  · split
    · exact fun h => ⟨h.1, hk _ h.2⟩
    · exact id
  · split
    · exact fun h => ⟨h.1, h.2.1, hk _ h.2.2⟩
    · exact id
  · exact id
theorem za_ls_mono {Λ : List za_S} {μ : za_M} {b j : Nat} {i : Int32} {x : Int64} {k k' : za_M → Prop} (hk : ∀ v, k v → k' v) (h : za_ls Λ μ b j i x k) : za_ls Λ μ b j i x k' := by
  revert h
  unfold za_ls
  split
  · exact fun h => ⟨h.1, hk _ h.2⟩
  · exact id
theorem za_al_mono {Λ : List za_S} {b : Nat} {k k' : Int32 → Prop} (hk : ∀ v, k v → k' v) (h : za_al Λ b k) : za_al Λ b k' := by
  revert h
  unfold za_al
  split
  · exact hk _
  · exact hk _
  · exact hk _
  · exact hk _
  · exact id
theorem za_get_mono {Λ : List za_S} {μ : za_M} {c f : Nat} {st : List za_V} {k k' : za_V → List za_V → Prop} (hk : ∀ v t, k v t → k' v t) (h : za_get Λ μ c f st k) : za_get Λ μ c f st k' := by
  revert h
  unfold za_get
  split
  · exact za_gf_mono (fun _ h => hk _ _ h)
  · exact id
theorem za_put_mono {Λ : List za_S} {μ : za_M} {c f : Nat} {st : List za_V} {k k' : za_M → List za_V → Prop} (hk : ∀ v t, k v t → k' v t) (h : za_put Λ μ c f st k) : za_put Λ μ c f st k' := by
  revert h
  unfold za_put
  split
  · exact za_pf_mono (fun _ h => hk _ _ h)
  · exact id
theorem za_ald_mono {Λ : List za_S} {X : za_X} {μ : za_M} {kd : Nat} {st : List za_V} {k k' : za_V → List za_V → Prop} (hk : ∀ v t, k v t → k' v t) (h : za_ald Λ X μ kd st k) : za_ald Λ X μ kd st k' := by
  revert h
  unfold za_ald
  split
  · exact za_ia_mono (fun _ h => hk _ _ h)
  · exact fun h => ⟨h.1, h.2.1, h.2.2.1, h.2.2.2.1, hk _ _ h.2.2.2.2⟩
  · exact id
theorem za_ast_mono {Λ : List za_S} {μ : za_M} {kd : Nat} {st : List za_V} {k k' : za_M → List za_V → Prop} (hk : ∀ v t, k v t → k' v t) (h : za_ast Λ μ kd st k) : za_ast Λ μ kd st k' := by
  revert h
  unfold za_ast
  split
  · exact za_is_mono (fun _ h => hk _ _ h)
  · split
    · exact za_ls_mono (fun _ h => hk _ _ h)
    · exact id
  · exact id
theorem za_len_mono {Λ : List za_S} {X : za_X} {st : List za_V} {k k' : Int32 → List za_V → Prop} (hk : ∀ v t, k v t → k' v t) (h : za_len Λ X st k) : za_len Λ X st k' := by
  revert h
  unfold za_len
  split
  · exact za_al_mono (fun _ h => hk _ _ h)
  · exact fun h => ⟨h.1, h.2.1, hk _ _ h.2.2⟩
  · exact id
theorem za_pop_spec' {n : Nat} {st acc : List za_V} {k : List za_V → List za_V → Prop} (h : za_pop n st acc k) : ∃ as t, st = as.reverse ++ t ∧ as.length = n ∧ k (as ++ acc) t := by
  induction n generalizing st acc with
  | zero => exact ⟨[], st, rfl, rfl, h⟩
  | succ n ih =>
    cases st with
    | nil => exact h.elim
    | cons v st =>
      obtain ⟨as, t, h1, h2, h3⟩ := ih (st := st) (acc := v :: acc) h
      exact ⟨as ++ [v], t, by simp [h1], by simp [h2], by simpa using h3⟩
theorem za_pop_spec {n : Nat} {st : List za_V} {k : List za_V → List za_V → Prop} (h : za_pop n st [] k) : ∃ as t, st = as.reverse ++ t ∧ as.length = n ∧ k as t := by
  obtain ⟨as, t, h1, h2, h3⟩ := za_pop_spec' h
  exact ⟨as, t, h1, h2, by simpa using h3⟩
theorem za_cl_spec {n : Nat} {st : List za_V} {k : List za_V → List za_V → Prop} (h : za_cl n st k) : ∃ as t, st = as.reverse ++ t ∧ as.length = n ∧ za_wt t ≤ 8 ∧ k as t := by
  obtain ⟨as, t, h1, h2, h3⟩ := za_pop_spec (show za_pop n st [] _ from h)
  split at h3
  · rename_i hq
    exact ⟨as, t, h1, h2, Nat.le_of_ble_eq_true hq, h3⟩
  · exact h3.elim
theorem za_cp_mono {Λ : List za_S} {μ : za_M} {st : List za_V} {k k' : za_M → List za_V → Prop} (hk : ∀ v t, k v t → k' v t) (h : za_cp Λ μ st k) : za_cp Λ μ st k' := by
  revert h
  unfold za_cp
  split
  · split
    · exact fun h => ⟨h.1, h.2.1, h.2.2.1, h.2.2.2.1, h.2.2.2.2.1, h.2.2.2.2.2.1, hk _ _ h.2.2.2.2.2.2⟩
    · exact id
  · exact id
end
section
/-! the row copied: System.arraycopy between two rows of ints -/
theorem za_wt_cat (ad : Nat → Nat → Nat) : ∀ t : List za_V, ((t.map (za_cv ad)).map fun v => v.category).sum = za_wt t
  | [] => rfl
  | .inl x :: t => by
    simp only [List.map_cons, List.sum_cons, za_wt_cat ad t]
    rfl
  | .inr (.inl x) :: t => by
    simp only [List.map_cons, List.sum_cons, za_wt_cat ad t]
    rfl
  | .inr (.inr (.inl q)) :: t => by
    simp only [List.map_cons, List.sum_cons, za_wt_cat ad t]
    rfl
  | .inr (.inr (.inr a)) :: t => by
    simp only [List.map_cons, List.sum_cons, za_wt_cat ad t]
    rfl
theorem za_ur_at {α : Type} (f : Nat → Nat → Nat → α) (b j : Nat) (r : Nat → α) : za_ur f b j r b j = r := by
  simp [za_ur]
theorem za_ur_ne {α : Type} {f : Nat → Nat → Nat → α} {b j b' j' : Nat} {r : Nat → α} (h : ¬ (b' = b ∧ j' = j)) : za_ur f b j r b' j' = f b' j' := by
  simp only [za_ur]
  rw [if_neg h]
section ZF
variable {p : Program} {l : Launch} {e : Env} {R : Room} {s : State} {m : MethodId} {args : Array Value} {below : List Frame} {meth : Method} {c : Code} {Q : State → Prop}
variable {Λ : List za_S} {cn : Nat → Nat} {ad : Nat → Nat → Nat} {ca : Nat → ClassId} {D : va_G} {cl : List vw_C} {A : Nat → Prop} {nL : Nat} {cc : ByteArray} {pc nx : Nat} {ls : za_C} {st st' : List za_V} {μ : za_M} {κ : Nat × Nat} {tys : List (ClassId × FieldType)}
theorem zf_cp (hexec : p.tables.exec = Jvm.exec) (hb : c.code = cc) (hml : c.maxLocals = nL) (hK : va_K D cl tys s) (hD : ∀ μ : za_M, va_D A (za_ws Λ cn ad ca μ)) (hty : za_ty Λ ca tys) {own : String} {index : Nat} (hown : s.vm.findClass own = some m.cls) (hlink : (Cond.methodLink own index arraycopyName).before args s = true) (hnat : (Cond.native arraycopyName).before args s = true) (hstat : (Cond.static arraycopyName).before args s = true) (hini : (Cond.initialized "java/lang/System").before args s = true)
    (hframes : 1 ≤ R.frames) (hlocals : 8 + (nativeFrameWords "java/lang/System" "arraycopy" 5 + 11) ≤ R.locals) (hdg : decode cc pc = .ok (.invokestatic index, 3))
    (k : za_cp Λ μ st (fun μ1 t => za_Z p l e R s m args below meth c Λ cn ad ca D cl A nL Q (pc + 3) ls t μ1 κ)) : za_Z p l e R s m args below meth c Λ cn ad ca D cl A nL Q pc ls st μ κ := by
  unfold za_cp at k
  split at k
  · rename_i n dp bd jd sp bs js t
    split at k
    · rename_i ns a1 nd a2 hΛs hΛd
      obtain ⟨k1, k2, k3, k4, k5, k6, k⟩ := k
      intro h1 h2 lc H locs h3 h4 h5
      obtain ⟨q0, hp0, hq0⟩ := za_ws_at ad ca μ hΛs (show js < cn bs from h1.2.2.2.2.1)
      obtain ⟨q1, hp1, hq1⟩ := za_ws_at ad ca μ hΛd (show jd < cn bd from h1.2.2.1)
      have hen0 : za_en Λ ad ca μ bs js = .inl (ca bs, ns, .inl (μ.1 bs js)) := by simp only [za_en, hΛs]
      have hen1 : ∀ ν : za_M, za_en Λ ad ca ν bd jd = .inl (ca bd, nd, .inl (ν.1 bd jd)) := by intro ν; simp only [za_en, hΛd]
      rw [hen0] at hq0
      rw [hen1] at hq1
      obtain ⟨t0, ht0⟩ := (hty bs _ hΛs).1 rfl
      obtain ⟨t1, ht1⟩ := (hty bd _ hΛd).1 rfl
      refine va_copyi hexec hb (hml.trans h3.2.1.symm) hown hlink hnat hstat hini hK h4 (hD μ) h5 q0 q1 t0 t1 hq0 hq1 ht0 ht1 rfl k1 k2 k3 k4 k5 (fun _ _ => rfl) hframes (by rw [za_wt_cat]; omega) hdg (fun H1 locs1 hP1 _ hS1 => ?_)
      rw [za_ws_set (μ := μ) (ad := ad) (ca := ca) (μ' := (za_ur μ.1 bd jd (va_cpy (μ.1 bs js) (μ.1 bd jd) sp.toNatClampNeg dp.toNatClampNeg n.toNatClampNeg), μ.2)) hp1 (by rw [hen1]; simp only [za_ur_at]) (fun b' j' h => za_en_ne (za_ur_ne h) rfl)] at hP1
      exact k h1.2.2.2.2.2 h2 lc H1 locs1 h3 hP1 hS1
    · exact k.elim
  · exact k.elim
end ZF
end
section
/-! one instruction is sound -/
def za_ln (ins : Instr) (x2 : Nat) : Nat := match ins with
  | .bipush _ => 2
  | .ldc _ => 2
  | .iload _ => 2
  | .lload _ => 2
  | .aload _ => 2
  | .istore _ => 2
  | .lstore _ => 2
  | .astore _ => 2
  | .sipush _ => 3
  | .ldc2_w _ => 3
  | .iinc _ _ => 3
  | .ifCond _ _ => 3
  | .if_icmp _ _ => 3
  | .goto _ => 3
  | .getfield _ => 3
  | .putfield _ => 3
  | .invokevirtual _ => 3
  | .invokespecial _ => 3
  | .invokestatic _ => 3
  | .new _ => 3
  | .tableswitch _ _ _ _ => x2
  | _ => 1
/-- what is asked of a row of the program, beside its decoding -/
def za_gx (own : String) (Ts : List Cond) (cl : List vw_C) (e : za_E) : Prop := match e.2.1 with
  | .iconst n => Int32.ofInt n = e.2.2.2.2.2
  | .bipush n => (Int8.ofInt n).toInt32 = e.2.2.2.2.2
  | .sipush n => (Int16.ofInt n).toInt32 = e.2.2.2.2.2
  | .ldc k => Jvm.Cond.constant own k e.2.2.2.2.2 ∈ Ts
  | .ldc2_w k => Jvm.Cond.constantLong own k e.2.2.2.2.2.toInt64 ∈ Ts
  | .iinc _ n => Int32.ofInt n = e.2.2.2.2.2
  | .ifCond _ off => (e.1 : Int) + off = (e.2.2.2.1 : Int)
  | .if_icmp _ off => (e.1 : Int) + off = (e.2.2.2.1 : Int)
  | .goto off => (e.1 : Int) + off = (e.2.2.2.1 : Int)
  | .getfield k => ∃ q : vw_C, cl[e.2.2.2.1]? = some q ∧ e.2.2.2.2.1 < q.2.2 ∧ Jvm.Cond.fieldLink own k (q.2.1 e.2.2.2.2.1).1 (q.2.1 e.2.2.2.2.1).2.1 (q.2.1 e.2.2.2.2.1).2.2.1 ∈ Ts
  | .putfield k => ∃ q : vw_C, cl[e.2.2.2.1]? = some q ∧ e.2.2.2.2.1 < q.2.2 ∧ Jvm.Cond.fieldLink own k (q.2.1 e.2.2.2.2.1).1 (q.2.1 e.2.2.2.2.1).2.1 (q.2.1 e.2.2.2.2.1).2.2.1 ∈ Ts ∧ (q.2.1 e.2.2.2.2.1).2.2.2 = false
  | .tableswitch d lo hi offs => (e.1 : Int) + d = (e.2.2.2.1 : Int) ∧ hi = lo + offs.size - 1 ∧ -2147483648 ≤ lo ∧ hi ≤ 2147483647 ∧ (offs.toList.all fun o => decide (0 ≤ (e.1 : Int) + o)) = true
  | _ => True
def za_gd (cc : ByteArray) (own : String) (Ts : List Cond) (cl : List vw_C) (e : za_E) : Prop := decode cc e.1 = .ok (e.2.1, za_ln e.2.1 e.2.2.2.2.1) ∧ e.2.2.1 = e.1 + za_ln e.2.1 e.2.2.2.2.1 ∧ za_gx own Ts cl e
/-- what is asked of the classes -/
def za_cg (Ts : List Cond) (cl : List vw_C) (ft : Nat → Nat → FieldType) (Λ : List za_S) : Prop := (∀ (ci : Nat) (q : vw_C), cl[ci]? = some q → (∀ w ∈ u_ws q.1 q.2.1 q.2.2, w ∈ Ts) ∧ (∀ k, k < q.2.2 → parseFieldDescriptor (q.2.1 k).2.2.1 = some (ft ci k)) ∧ (∀ a, a < q.2.2 → ∀ b, b < q.2.2 → a ≠ b → (q.2.1 a).2.1 ≠ (q.2.1 b).2.1)) ∧
  ∀ (b ci f : Nat) (fs : List (Nat × Nat × Nat)), za_n Λ b = some (4, ci, fs) → (∀ z, za_n fs f = some (0, 0, z) → ft ci f = .int) ∧ (∀ z, za_n fs f = some (0, 1, z) → ft ci f = .boolean)
/-- where a method stands -/
def za_Cx (p : Program) (s : State) (m : MethodId) (args : Array Value) (c : Code) (Λ : List za_S) (cn : Nat → Nat) (ad : Nat → Nat → Nat) (ca : Nat → ClassId) (D : va_G) (cl : List vw_C) (A : Nat → Prop) (cc : ByteArray) (tys : List (ClassId × FieldType)) (X : za_X) (own : String) (Ts : List Cond) (ft : Nat → Nat → FieldType) : Prop :=
  p.tables.exec = Jvm.exec ∧ c.code = cc ∧ (∀ w ∈ Ts, w.before args s = true) ∧ s.vm.findClass own = some m.cls ∧ va_K D cl tys s ∧ (∀ μ : za_M, va_D A (za_ws Λ cn ad ca μ)) ∧ za_wf Λ cn ∧ za_ty Λ ca tys ∧ za_cg Ts cl ft Λ ∧ (X.1 = true → va_X X.2.1 X.2.2.1 X.2.2.2 s s.heap ∧ X.2.1 < s.heap.size ∧ ¬ A X.2.1)
section ZE
variable {p : Program} {l : Launch} {e : Env} {R : Room} {s : State} {m : MethodId} {args : Array Value} {below : List Frame} {meth : Method} {c : Code} {Q : State → Prop}
variable {Λ : List za_S} {cn : Nat → Nat} {ad : Nat → Nat → Nat} {ca : Nat → ClassId} {D : va_G} {cl : List vw_C} {A : Nat → Prop} {nL : Nat} {cc : ByteArray} {tys : List (ClassId × FieldType)} {X : za_X} {own : String} {Ts : List Cond} {ft : Nat → Nat → FieldType}
theorem ze_sw {x : Int32} {lo : Int} {offs : List Nat} {J : Nat → Prop} {d : Prop} (h : za_sw x lo offs J d) : ((∀ k : Nat, k < offs.length → ¬ x = Int32.ofInt (lo + k)) ∧ d) ∨ ∃ (k t : Nat), offs[k]? = some t ∧ x = Int32.ofInt (lo + k) ∧ J t := by
  induction offs generalizing lo with
  | nil => exact Or.inl ⟨fun k hk => by simp at hk, h⟩
  | cons t r ih =>
    by_cases hx : x = Int32.ofInt lo
    · exact Or.inr ⟨0, t, rfl, by simpa using hx, h.1 hx⟩
    · rcases ih (h.2 hx) with ⟨h1, h2⟩ | ⟨k, t', h1, h2, h3⟩
      · left
        refine ⟨fun k hk => ?_, h2⟩
        cases k with
        | zero => simpa using hx
        | succ k =>
          have := h1 k (by simpa using hk)
          rw [show lo + ((k + 1 : Nat) : Int) = lo + 1 + (k : Int) by omega]
          exact this
      · right
        refine ⟨k + 1, t', by simpa using h1, ?_, h3⟩
        rw [show lo + ((k + 1 : Nat) : Int) = lo + 1 + (k : Int) by omega]
        exact h2
set_option maxHeartbeats 8000000 in
set_option maxRecDepth 100000 in
theorem ze_step {ret : Nat} {RR : za_RR} {XX : za_XX} {CC : za_CC} {HX : Nat → za_C → za_M → Nat × Nat → Prop} {K : za_K} {J : Nat → za_K} {E : za_E} {ls : za_C} {st : List za_V} {μ : za_M} {κ : Nat × Nat}
    (C0 : za_Cx p s m args c Λ cn ad ca D cl A cc tys X own Ts ft) (hG : za_gd cc own Ts cl E)
    (hK : ∀ ls st μ κ, K ls st μ κ → za_Z p l e R s m args below meth c Λ cn ad ca D cl A nL Q E.2.2.1 ls st μ κ) (hJ : ∀ t ls st μ κ, J t ls st μ κ → za_Z p l e R s m args below meth c Λ cn ad ca D cl A nL Q t ls st μ κ)
    (hI : ∀ x μ κ, (ret = 1 ∨ ret = 2 ∧ (x = 0 ∨ x = 1)) → RR (some (za_i x)) μ κ → decode cc E.1 = .ok (.ireturn, 1) → za_Z p l e R s m args below meth c Λ cn ad ca D cl A nL Q E.1 ls [za_i x] μ κ)
    (hL : ∀ x μ κ, ret = 3 → RR (some (za_l x)) μ κ → decode cc E.1 = .ok (.lreturn, 1) → za_Z p l e R s m args below meth c Λ cn ad ca D cl A nL Q E.1 ls [za_l x] μ κ)
    (hA : ∀ r μ κ, ret = 4 → RR (some (.inr (.inr r))) μ κ → decode cc E.1 = .ok (.areturn, 1) → za_Z p l e R s m args below meth c Λ cn ad ca D cl A nL Q E.1 ls [.inr (.inr r)] μ κ)
    (hV : ∀ μ κ, ret = 0 → RR none μ κ → decode cc E.1 = .ok (.return_, 1) → za_Z p l e R s m args below meth c Λ cn ad ca D cl A nL Q E.1 ls [] μ κ)
    (hC : ∀ (k : Nat) (as t : List za_V), st = as.reverse ++ t → as.length = E.2.2.2.2.1 → za_wt t ≤ 8 → (E.2.1 = .invokevirtual k ∨ E.2.1 = .invokespecial k ∨ E.2.1 = .invokestatic k) → (E.2.1 = .invokestatic k → ¬ E.2.2.2.1 = 999) → CC E.2.2.2.1 as μ κ (fun r μ1 κ1 => za_back r t (fun t1 => K ls t1 μ1 κ1)) (fun x μ1 κ1 => HX x ls μ1 κ1) → za_Z p l e R s m args below meth c Λ cn ad ca D cl A nL Q E.1 ls st μ κ)
    (hAc : ∀ (k : Nat), E.2.1 = .invokestatic k → E.2.2.2.1 = 999 → za_cp Λ μ st (fun μ1 t => K ls t μ1 κ) → za_Z p l e R s m args below meth c Λ cn ad ca D cl A nL Q E.1 ls st μ κ)
    (hN : ∀ (k : Nat), E.2.1 = .new k → XX E.2.2.2.1 μ (κ.1 + 1, κ.2 + 6) → za_Z p l e R s m args below meth c Λ cn ad ca D cl A nL Q E.1 ls st μ κ)
    (h : za_stp Λ X ret RR XX CC HX K J E ls st μ κ) : za_Z p l e R s m args below meth c Λ cn ad ca D cl A nL Q E.1 ls st μ κ := by
  obtain ⟨hx, hb, hts, hown, hKw, hD, hwf, hty, ⟨hcg, hlf⟩, hX⟩ := C0
  obtain ⟨pc, ins, nx, x1, x2, v⟩ := E
  obtain ⟨hdg, hnx, hgx⟩ := hG
  dsimp only at hdg hnx hgx hK hI hL hA hV hC hAc hN ⊢
  cases ins
  case iconst n =>
    subst hnx
    exact zb_st (hK _ _ _ _ h) (fun lc H locs k => lv_iconst hx hb hdg hgx k) (fun h => ⟨trivial, h⟩)
  case bipush n =>
    subst hnx
    exact zb_st (hK _ _ _ _ h) (fun lc H locs k => lv_bipush hx hb hdg hgx k) (fun h => ⟨trivial, h⟩)
  case sipush n =>
    subst hnx
    exact zb_st (hK _ _ _ _ h) (fun lc H locs k => lv_sipush hx hb hdg hgx k) (fun h => ⟨trivial, h⟩)
  case ldc n =>
    subst hnx
    exact zb_st (hK _ _ _ _ h) (fun lc H locs k => lv_ldc hx hb hown (hts _ hgx) hdg k) (fun h => ⟨trivial, h⟩)
  case ldc2_w n =>
    subst hnx
    exact zb_st (hK _ _ _ _ h) (fun lc H locs k => lv_ldc2 hx hb hown (hts _ hgx) hdg k) (fun h => ⟨trivial, h⟩)
  case lconst n =>
    subst hnx
    exact zb_st (hK _ _ _ _ h) (fun lc H locs k => lv_lconst hx hb hdg rfl k) (fun h => ⟨trivial, h⟩)
  case iload i =>
    subst hnx
    obtain ⟨x, h1, h⟩ := za_ldI_spec h
    exact zb_ld h1 (fun lc H locs hl k => lv_iload hx hb hdg hl k) (hK _ _ _ _ h)
  case iload_n i =>
    subst hnx
    obtain ⟨x, h1, h⟩ := za_ldI_spec h
    exact zb_ld h1 (fun lc H locs hl k => lv_iload_n hx hb hdg rfl hl k) (hK _ _ _ _ h)
  case lload i =>
    subst hnx
    obtain ⟨x, h1, h⟩ := za_ldL_spec h
    exact zb_ld h1 (fun lc H locs hl k => lv_lload hx hb hdg hl k) (hK _ _ _ _ h)
  case lload_n i =>
    subst hnx
    obtain ⟨x, h1, h⟩ := za_ldL_spec h
    exact zb_ld h1 (fun lc H locs hl k => lv_lload_n hx hb hdg rfl hl k) (hK _ _ _ _ h)
  case aload i =>
    subst hnx
    change za_ldA ls i (fun v => K ls (v :: st) μ κ) at h
    obtain ⟨x, h1, h⟩ := za_ldA_spec h
    obtain ⟨a, ha⟩ := za_cvA ad x
    exact zb_ld h1 (fun lc H locs hl k => by rw [ha] at hl k; exact lv_aload hx hb hdg hl k) (hK _ _ _ _ h)
  case aload_n i =>
    subst hnx
    change za_ldA ls i (fun v => K ls (v :: st) μ κ) at h
    obtain ⟨x, h1, h⟩ := za_ldA_spec h
    obtain ⟨a, ha⟩ := za_cvA ad x
    exact zb_ld h1 (fun lc H locs hl k => by rw [ha] at hl k; exact lv_aload_n hx hb hdg rfl hl k) (hK _ _ _ _ h)
  case istore i =>
    subst hnx
    obtain ⟨x, t, rfl, h⟩ := za_1_spec h
    exact zb_s1 (v := za_i x) (st' := t) trivial (fun h => h.2) (fun lc H locs lv h1 h2 k => lv_istore hx hb hdg h1 h2 rfl k) (za_st1_mono (fun l1 h => hK _ _ _ _ h) h)
  case istore_n i =>
    subst hnx
    obtain ⟨x, t, rfl, h⟩ := za_1_spec h
    exact zb_s1 (v := za_i x) (st' := t) trivial (fun h => h.2) (fun lc H locs lv h1 h2 k => lv_istore_n hx hb hdg rfl h1 h2 rfl k) (za_st1_mono (fun l1 h => hK _ _ _ _ h) h)
  case lstore i =>
    subst hnx
    obtain ⟨x, t, rfl, h⟩ := za_L1_spec h
    exact zb_s2 (v := za_l x) (st' := t) trivial (fun h => h.2) (fun lc H locs lv h1 h2 k => lv_lstore hx hb hdg h1 h2 rfl k) (za_st2_mono (fun l1 h => hK _ _ _ _ h) h)
  case lstore_n i =>
    subst hnx
    obtain ⟨x, t, rfl, h⟩ := za_L1_spec h
    exact zb_s2 (v := za_l x) (st' := t) trivial (fun h => h.2) (fun lc H locs lv h1 h2 k => lv_lstore_n hx hb hdg rfl h1 h2 rfl k) (za_st2_mono (fun l1 h => hK _ _ _ _ h) h)
  case astore i =>
    subst hnx
    change za_A1 st (fun v t => za_st1 ls i v (fun l1 => K l1 t μ κ)) at h
    obtain ⟨r, t, rfl, h⟩ := za_A1_spec h
    obtain ⟨a, ha⟩ := za_cvA ad r
    intro h1 h2
    exact zb_s1 (v := .inr (.inr r)) (st' := t) h1.1 (fun h => h.2) (fun lc H locs lv h1 h2 k => by rw [ha] at k; rw [List.map_cons, ha]; exact lv_astore hx hb hdg h1 h2 rfl k) (za_st1_mono (fun l1 h => hK _ _ _ _ h) h) h1 h2
  case astore_n i =>
    subst hnx
    change za_A1 st (fun v t => za_st1 ls i v (fun l1 => K l1 t μ κ)) at h
    obtain ⟨r, t, rfl, h⟩ := za_A1_spec h
    obtain ⟨a, ha⟩ := za_cvA ad r
    intro h1 h2
    exact zb_s1 (v := .inr (.inr r)) (st' := t) h1.1 (fun h => h.2) (fun lc H locs lv h1 h2 k => by rw [ha] at k; rw [List.map_cons, ha]; exact lv_astore_n hx hb hdg rfl h1 h2 rfl k) (za_st1_mono (fun l1 h => hK _ _ _ _ h) h) h1 h2
  case iinc i n =>
    subst hnx
    obtain ⟨x, h1, h⟩ := za_ldI_spec h
    exact zb_inc hx hb hdg hgx h1 (za_st1_mono (fun l1 h => hK _ _ _ _ h) h)
  case iadd =>
    subst hnx
    obtain ⟨x, y, t, rfl, h⟩ := za_2_spec h
    exact zb_st (hK _ _ _ _ h) (fun lc H locs k => lv_iadd hx hb hdg k) (fun h => ⟨trivial, h.2.2⟩)
  case isub =>
    subst hnx
    obtain ⟨x, y, t, rfl, h⟩ := za_2_spec h
    exact zb_st (hK _ _ _ _ h) (fun lc H locs k => lv_isub hx hb hdg k) (fun h => ⟨trivial, h.2.2⟩)
  case imul =>
    subst hnx
    obtain ⟨x, y, t, rfl, h⟩ := za_2_spec h
    exact zb_st (hK _ _ _ _ h) (fun lc H locs k => lv_imul hx hb hdg k) (fun h => ⟨trivial, h.2.2⟩)
  case iand =>
    subst hnx
    obtain ⟨x, y, t, rfl, h⟩ := za_2_spec h
    exact zb_st (hK _ _ _ _ h) (fun lc H locs k => lv_iand hx hb hdg k) (fun h => ⟨trivial, h.2.2⟩)
  case ior =>
    subst hnx
    obtain ⟨x, y, t, rfl, h⟩ := za_2_spec h
    exact zb_st (hK _ _ _ _ h) (fun lc H locs k => lv_ior hx hb hdg k) (fun h => ⟨trivial, h.2.2⟩)
  case ixor =>
    subst hnx
    obtain ⟨x, y, t, rfl, h⟩ := za_2_spec h
    exact zb_st (hK _ _ _ _ h) (fun lc H locs k => lv_ixor hx hb hdg k) (fun h => ⟨trivial, h.2.2⟩)
  case ishl =>
    subst hnx
    obtain ⟨x, y, t, rfl, h⟩ := za_2_spec h
    exact zb_st (hK _ _ _ _ h) (fun lc H locs k => lv_ishl hx hb hdg k) (fun h => ⟨trivial, h.2.2⟩)
  case ishr =>
    subst hnx
    obtain ⟨x, y, t, rfl, h⟩ := za_2_spec h
    exact zb_st (hK _ _ _ _ h) (fun lc H locs k => lv_ishr hx hb hdg k) (fun h => ⟨trivial, h.2.2⟩)
  case iushr =>
    subst hnx
    obtain ⟨x, y, t, rfl, h⟩ := za_2_spec h
    exact zb_st (hK _ _ _ _ h) (fun lc H locs k => lv_iushr hx hb hdg rfl k) (fun h => ⟨trivial, h.2.2⟩)
  case idiv =>
    subst hnx
    obtain ⟨x, y, t, rfl, h0, h⟩ := za_2_spec h
    exact zb_st (hK _ _ _ _ h) (fun lc H locs k => lv_idiv hx hb hdg h0 k) (fun h => ⟨trivial, h.2.2⟩)
  case irem =>
    subst hnx
    obtain ⟨x, y, t, rfl, h0, h⟩ := za_2_spec h
    exact zb_st (hK _ _ _ _ h) (fun lc H locs k => lv_irem hx hb hdg h0 k) (fun h => ⟨trivial, h.2.2⟩)
  case ineg =>
    subst hnx
    obtain ⟨x, t, rfl, h⟩ := za_1_spec h
    exact zb_st (hK _ _ _ _ h) (fun lc H locs k => lv_ineg hx hb hdg k) (fun h => ⟨trivial, h.2⟩)
  case ladd =>
    subst hnx
    obtain ⟨x, y, t, rfl, h⟩ := za_L2_spec h
    exact zb_st (hK _ _ _ _ h) (fun lc H locs k => lv_ladd hx hb hdg k) (fun h => ⟨trivial, h.2.2⟩)
  case lsub =>
    subst hnx
    obtain ⟨x, y, t, rfl, h⟩ := za_L2_spec h
    exact zb_st (hK _ _ _ _ h) (fun lc H locs k => lv_lsub hx hb hdg k) (fun h => ⟨trivial, h.2.2⟩)
  case land =>
    subst hnx
    obtain ⟨x, y, t, rfl, h⟩ := za_L2_spec h
    exact zb_st (hK _ _ _ _ h) (fun lc H locs k => lv_land hx hb hdg k) (fun h => ⟨trivial, h.2.2⟩)
  case lor =>
    subst hnx
    obtain ⟨x, y, t, rfl, h⟩ := za_L2_spec h
    exact zb_st (hK _ _ _ _ h) (fun lc H locs k => lv_lor hx hb hdg k) (fun h => ⟨trivial, h.2.2⟩)
  case lxor =>
    subst hnx
    obtain ⟨x, y, t, rfl, h⟩ := za_L2_spec h
    exact zb_st (hK _ _ _ _ h) (fun lc H locs k => lv_lxor hx hb hdg k) (fun h => ⟨trivial, h.2.2⟩)
  case lcmp =>
    subst hnx
    obtain ⟨x, y, t, rfl, h⟩ := za_L2_spec h
    exact zb_st (hK _ _ _ _ h) (fun lc H locs k => W.lcmp hx hb hdg k) (fun h => ⟨trivial, h.2.2⟩)
  case lshl =>
    subst hnx
    obtain ⟨x, y, t, rfl, h⟩ := za_LI_spec h
    exact zb_st (hK _ _ _ _ h) (fun lc H locs k => lv_lshl hx hb hdg rfl k) (fun h => ⟨trivial, h.2.2⟩)
  case lshr =>
    subst hnx
    obtain ⟨x, y, t, rfl, h⟩ := za_LI_spec h
    exact zb_st (hK _ _ _ _ h) (fun lc H locs k => lv_lshr hx hb hdg rfl k) (fun h => ⟨trivial, h.2.2⟩)
  case lushr =>
    subst hnx
    obtain ⟨x, y, t, rfl, h⟩ := za_LI_spec h
    exact zb_st (hK _ _ _ _ h) (fun lc H locs k => lv_lushr hx hb hdg rfl k) (fun h => ⟨trivial, h.2.2⟩)
  case i2l =>
    subst hnx
    obtain ⟨x, t, rfl, h⟩ := za_1_spec h
    exact zb_st (hK _ _ _ _ h) (fun lc H locs k => lv_i2l hx hb hdg rfl k) (fun h => ⟨trivial, h.2⟩)
  case l2i =>
    subst hnx
    obtain ⟨x, t, rfl, h⟩ := za_L1_spec h
    exact zb_st (hK _ _ _ _ h) (fun lc H locs k => lv_l2i hx hb hdg rfl k) (fun h => ⟨trivial, h.2⟩)
  case dup =>
    subst hnx
    change za_dup st (fun t => K ls t μ κ) at h
    unfold za_dup at h
    split at h
    · exact zb_st (hK _ _ _ _ h) (fun lc H locs k => lv_dup hx hb hdg rfl k) (fun h => ⟨h.1, h⟩)
    · rename_i r t
      obtain ⟨a, ha⟩ := za_cvA ad r
      exact zb_st (hK _ _ _ _ h) (fun lc H locs k => by simp only [List.map_cons, ha] at k ⊢; exact lv_dup hx hb hdg rfl k) (fun h => ⟨h.1, h⟩)
    · exact h.elim
  case dup2 =>
    subst hnx
    change za_dup2 st (fun t => K ls t μ κ) at h
    unfold za_dup2 at h
    split at h
    · exact zb_st (hK _ _ _ _ h) (fun lc H locs k => lv_dup2_2 hx hb hdg rfl k) (fun h => ⟨h.1, h⟩)
    · exact zb_st (hK _ _ _ _ h) (fun lc H locs k => lv_dup2_11 hx hb hdg rfl rfl k) (fun h => ⟨h.1, h.2.1, h⟩)
    · rename_i x r t
      obtain ⟨a, ha⟩ := za_cvA ad r
      exact zb_st (hK _ _ _ _ h) (fun lc H locs k => by simp only [List.map_cons, ha] at k ⊢; exact lv_dup2_11 hx hb hdg rfl rfl k) (fun h => ⟨h.1, h.2.1, h⟩)
    · exact h.elim
  case dup_x1 =>
    subst hnx
    change za_dupx1 st (fun t => K ls t μ κ) at h
    unfold za_dupx1 at h
    split at h
    · exact zb_st (hK _ _ _ _ h) (fun lc H locs k => lv_dup_x1 hx hb hdg rfl rfl k) (fun h => ⟨h.1, h.2.1, h.1, h.2.2⟩)
    · rename_i x r t
      obtain ⟨a, ha⟩ := za_cvA ad r
      exact zb_st (hK _ _ _ _ h) (fun lc H locs k => by simp only [List.map_cons, ha] at k ⊢; exact lv_dup_x1 hx hb hdg rfl rfl k) (fun h => ⟨h.1, h.2.1, h.1, h.2.2⟩)
    · exact h.elim
  case pop =>
    subst hnx
    change za_drop1 st (fun t => K ls t μ κ) at h
    unfold za_drop1 at h
    split at h
    · exact zb_st (hK _ _ _ _ h) (fun lc H locs k => lv_pop hx hb hdg rfl k) (fun h => h.2)
    · rename_i r t
      obtain ⟨a, ha⟩ := za_cvA ad r
      exact zb_st (hK _ _ _ _ h) (fun lc H locs k => by simp only [List.map_cons, ha] at k ⊢; exact lv_pop hx hb hdg rfl k) (fun h => h.2)
    · exact h.elim
  case ifCond cd off =>
    subst hnx
    obtain ⟨x, t, rfl, h⟩ := za_1_spec h
    exact zb_br (fun lc H locs k => zb_if hx hb hdg hgx k) (fun h => h.2) (za_br_mono (fun h => hJ _ _ _ _ _ h) (fun h => hK _ _ _ _ h) h)
  case if_icmp cd off =>
    subst hnx
    obtain ⟨x, y, t, rfl, h⟩ := za_2_spec h
    exact zb_br (fun lc H locs k => zb_icmp hx hb hdg hgx k) (fun h => h.2.2) (za_br_mono (fun h => hJ _ _ _ _ _ h) (fun h => hK _ _ _ _ h) h)
  case goto off =>
    exact zb_st (hJ _ _ _ _ _ h) (fun lc H locs k => lv_goto hx hb hdg hgx k) (fun h => h)
  case getfield k =>
    subst hnx
    obtain ⟨⟨C, T, N⟩, h1, h2, h3⟩ := hgx
    exact zc_get hx hb hKw hwf hts (hcg _ _ h1).1 hown h1 h2 (hts _ h3) (fun _ h9 => h9) hdg (za_get_mono (fun v t h => hK _ _ _ _ h) h)
  case putfield k =>
    subst hnx
    obtain ⟨⟨C, T, N⟩, h1, h2, h3, h4⟩ := hgx
    exact zd_put hx hb hKw hD hts (hcg _ _ h1).1 (ft x1) (hcg _ _ h1).2.1 (hcg _ _ h1).2.2 hown h1 h2 (hts _ h3) (fun _ h9 => h9) h4 (fun b fs _ h => hlf b x1 x2 fs h) hdg (za_put_mono (fun v t h => hK _ _ _ _ h) h)
  case iaload =>
    subst hnx
    exact zc_ald hx hb hKw hwf hty hX hdg (Or.inl ⟨rfl, rfl⟩) (za_ald_mono (fun v t h => hK _ _ _ _ h) h)
  case baload =>
    subst hnx
    exact zc_ald hx hb hKw hwf hty hX hdg (Or.inr (Or.inl ⟨rfl, rfl⟩)) (za_ald_mono (fun v t h => hK _ _ _ _ h) h)
  case laload =>
    subst hnx
    exact zc_ald hx hb hKw hwf hty hX hdg (Or.inr (Or.inr (Or.inl ⟨rfl, rfl⟩))) (za_ald_mono (fun v t h => hK _ _ _ _ h) h)
  case aaload =>
    subst hnx
    exact zc_ald hx hb hKw hwf hty hX hdg (Or.inr (Or.inr (Or.inr ⟨rfl, rfl⟩))) (za_ald_mono (fun v t h => hK _ _ _ _ h) h)
  case iastore =>
    subst hnx
    exact zd_ast hx hb hKw hD hty hdg (Or.inl ⟨rfl, rfl⟩) (za_ast_mono (fun v t h => hK _ _ _ _ h) h)
  case bastore =>
    subst hnx
    exact zd_ast hx hb hKw hD hty hdg (Or.inr (Or.inl ⟨rfl, rfl⟩)) (za_ast_mono (fun v t h => hK _ _ _ _ h) h)
  case lastore =>
    subst hnx
    exact zd_ast hx hb hKw hD hty hdg (Or.inr (Or.inr ⟨rfl, rfl⟩)) (za_ast_mono (fun v t h => hK _ _ _ _ h) h)
  case arraylength =>
    subst hnx
    exact zd_len hx hb hKw hty hX hdg (za_len_mono (fun v t h => hK _ _ _ _ h) h)
  case invokevirtual k =>
    obtain ⟨as, t, h1, h2, h4, h3⟩ := za_cl_spec h
    exact hC k as t h1 h2 h4 (Or.inl rfl) (fun q => by cases q) h3
  case invokespecial k =>
    obtain ⟨as, t, h1, h2, h4, h3⟩ := za_cl_spec h
    exact hC k as t h1 h2 h4 (Or.inr (Or.inl rfl)) (fun q => by cases q) h3
  case invokestatic k =>
    change (match Nat.beq x1 999 with
      | true => za_cp Λ μ st (fun m t => K ls t m κ)
      | false => za_cl x2 st (fun as t => CC x1 as μ κ (fun r m q => za_back r t (fun t1 => K ls t1 m q)) (fun x m q => HX x ls m q))) at h
    split at h
    · rename_i hq
      exact hAc k rfl (Nat.eq_of_beq_eq_true hq) h
    · rename_i hq
      obtain ⟨as, t, h1, h2, h4, h3⟩ := za_cl_spec h
      exact hC k as t h1 h2 h4 (Or.inr (Or.inr rfl)) (fun _ q => by rw [q] at hq; cases hq) h3
  case new k => exact hN k rfl h
  case ireturn =>
    obtain ⟨x, t, rfl, rfl, h1, h⟩ := za_1_spec h
    exact hI x _ _ h1 h hdg
  case lreturn =>
    obtain ⟨x, t, rfl, rfl, h1, h⟩ := za_L1_spec h
    exact hL x _ _ h1 h hdg
  case areturn =>
    change za_A1 st (fun v t => t = [] ∧ ret = 4 ∧ RR (some v) μ κ) at h
    obtain ⟨r, t, rfl, rfl, h1, h⟩ := za_A1_spec h
    exact hA r _ _ h1 h hdg
  case return_ =>
    obtain ⟨rfl, h1, h⟩ := h
    exact hV _ _ h1 h hdg
  case tableswitch d lo hi offs =>
    obtain ⟨x, t, rfl, h⟩ := za_1_spec h
    obtain ⟨g1, g2, g3, g4, g5⟩ := hgx
    rcases ze_sw h with ⟨h1, h2⟩ | ⟨k, tg, h1, h2, h3⟩
    · have hout : x.toInt < lo ∨ hi < x.toInt := by
        rcases (show x.toInt < lo ∨ lo ≤ x.toInt by omega) with q | q
        · exact Or.inl q
        · rcases (show hi < x.toInt ∨ x.toInt ≤ hi by omega) with q2 | q2
          · exact Or.inr q2
          · refine absurd ?_ (h1 (x.toInt - lo).toNat (by simp only [List.length_map, Array.length_toList]; omega))
            rw [show lo + (((x.toInt - lo).toNat : Nat) : Int) = x.toInt by omega, Int32.ofInt_toInt]
      exact zb_st (hJ _ _ _ _ _ h2) (fun lc H locs k => lv_tableOut hx hb hdg hout g1 k) (fun h => h.2)
    · rw [List.getElem?_map, Option.map_eq_some_iff] at h1
      obtain ⟨o, ho, he⟩ := h1
      rw [Array.getElem?_toList] at ho
      have hk : k < offs.size := (Array.getElem?_eq_some_iff.mp ho).1
      have hxi : x.toInt = lo + (k : Int) := by rw [h2]; exact Int32.toInt_ofInt_of_le (by omega) (by omega)
      have hnn : 0 ≤ (pc : Int) + o := by
        have := List.all_eq_true.mp g5 o (Array.mem_toList_iff.mpr (Array.mem_of_getElem? ho))
        simpa using this
      exact zb_st (hJ _ _ _ _ _ h3) (fun lc H locs kk => lv_tableIn (off := o) (tgt := tg) hx hb hdg (by omega) (by omega) (by rw [hxi, show lo + (k : Int) - lo = (k : Int) by omega, Int.toNat_natCast]; exact ho) (by omega) kk) (fun h => h.2)
  all_goals exact h.elim
end ZE
end
section
/-! METHODS THAT MAY THROW: a contract over both ends, and a call that comes back or throws. -/
def zx_Q (Qc : Array Value → State → Outcome → State → Prop) (mc ms : Nat) (free : Addr → Prop) : Array Value → State → Outcome → State → Prop := fun a st o t =>
  Qc a st o t ∧ st.WarmedH t.vm ∧ ∃ L : List Loc, st.sameButNew ({ t with vm := st.vm } : State) L mc ms ∧ ∀ q ∈ L, free q.base
def zx_Met (l : Launch) (y : MethodName) (ws : List Cond) (rm : Room) (Pc : Array Value → State → Prop) (Qc : Array Value → State → Outcome → State → Prop) (mc ms : Nat) (free : Addr → Prop) : Prop :=
  MetFree l y (headSpec ws rm) Pc (fun _ _ _ _ _ => True) (zx_Q Qc mc ms free)
def zx_MQ (below : List Frame) (Qc : Array Value → State → Outcome → State → Prop) (a : Array Value) (s : State) (mc ms : Nat) (free : Addr → Prop) : State → Prop := fun t =>
  ∃ o, t.status = .running ∧ Ended t below o ∧ zx_Q Qc mc ms free a s o t
section ZXA
variable {p : Program} {l : Launch} {e : Env} {R : Room} {s : State} {m : MethodId} {args : Array Value} {below : List Frame} {meth : Method} {c : Code} {H : Heap} {locs : List Loc} {cells slots mc ms : Nat} {Qc : Array Value → State → Outcome → State → Prop} {free : Addr → Prop}
theorem zx_ret {g : JFrame} (k : W p l e R s m args below meth c H locs cells slots (MQ below Qc args s mc ms free) g) : W p l e R s m args below meth c H locs cells slots (zx_MQ below Qc args s mc ms free) g := by
  intro T hT X
  obtain ⟨t, a1, o, b1, b2, b3, L, ⟨-, h1, h2⟩, h3⟩ := k T hT X
  exact ⟨t, a1, o, b1, b2, b3, h1, L, h2, h3⟩
theorem zx_ofW {y : MethodName} {ws ws' : List Cond} {rm : Room} {Pc : Array Value → State → Prop} {cc : ByteArray} {maxL : Nat} {ret : Option FieldType}
    (hy : plainName y.cls = true) (hw : ws = Cond.code y cc maxL ret :: ws')
    (body : ∀ p e s m args below meth c s₁, BodyLoose p l y (headSpec ws rm) cc maxL ret e s m args below meth c s₁ → c.maxLocals = maxL → (∀ x ∈ c.exceptionTable.toList, False) → Pc args s →
      W p l e (headSpec ws rm).room s m args below meth c s.heap [] 0 0 (zx_MQ below Qc args s mc ms free) (entryFrame m args maxL)) : zx_Met l y ws rm Pc Qc mc ms free := by
  refine MetFree.of_bodyS (code := cc) (maxLocals := maxL) (ret := ret) hy ?_ ?_
  · intro args s m h hn
    obtain ⟨meth, c, h1, h2, h3, h4, h5, h6, -, -⟩ := Cond.code_spec hn (atoms_spec (ws := ws) h _ (by rw [hw]; exact List.mem_cons_self))
    exact ⟨meth, c, h1, h2, h3, h4, h5, h6⟩
  · intro p e s m args below meth c s₁ B hml hP _
    have hh0 : s₁.heap = s.heap := by rw [B.state]; rfl
    have hc0 := (atoms_spec (ws := ws) B.pre) _ (by rw [hw]; exact List.mem_cons_self)
    obtain ⟨meth', c', g1, g2, g3, g4, g5, g6, g7, g8⟩ := Cond.code_spec B.named hc0
    cases B.method.symm.trans g1
    have hcc : meth.code = some c := by
      have h := B.here.code
      rw [State.code?_eq, B.method₁] at h
      exact h
    cases hcc.symm.trans g2
    have h0 : c.exceptionTable = #[] := by simpa using g7
    have hnoex : ∀ x ∈ c.exceptionTable.toList, False := by
      intro x hx
      rw [h0] at hx
      simp at hx
    obtain ⟨t, a1, o, b1, b2, b3⟩ := body p e s m args below meth c s₁ B hml hnoex hP s₁ hh0 (Stand.of_body B)
    exact ⟨t, o, a1, b1, b2, b3⟩
end ZXA
section ZXB
variable {p : Program} {l : Launch} {e : Env} {R : Room} {s : State} {m : MethodId} {sargs : Array Value} {below : List Frame} {meth : Method} {c : Code} {locs : List Loc} {cells slots mc ms len W9 : Nat} {y : MethodName}
theorem zx_back {ws : List Cond} {rm : Room} {Pc : Array Value → State → Prop} {Qc : Array Value → State → Outcome → State → Prop} {free : Addr → Prop} {bytes : ByteArray} {maxL : Nat} {ret : Option FieldType} {U : State} {g : JFrame} {ig : Instr} {mk : MethodId} {a : Array Value}
    (hM : zx_Met l y ws rm Pc Qc mc ms free) (hblind : FrameBlind Pc) (hrc : rm.cells = mc) (hrs : rm.slots = ms) (hframes : rm.frames + 1 ≤ R.frames) (hlocals : W9 + (maxL + 11) + rm.locals ≤ R.locals)
    (hws : ∀ w ∈ ws, ∀ (a' : Array Value) (U : State), s.WarmedH U.vm → w.before a' U = true) (hcode : Cond.code y bytes maxL ret ∈ ws) (hinit : ∀ (a' : Array Value) (U : State), s.WarmedH U.vm → (Cond.initialized y.cls).before a' U = true)
    (X : Stand p l e R s m sargs below meth c U locs cells slots) (hg : g.method = m) (hsize : g.locals.size = c.maxLocals) (hdg : decode c.code g.pc = .ok (ig, len)) (hW : 2 * g.monitorRoom + (g.stack.map fun v => v.category).sum ≤ W9) (hn : U.methodNamed? y = some mk)
    (hcells : cells + mc ≤ R.cells) (hslots : slots + ms ≤ R.slots) (hPc : Pc a U) :
    ∃ (o : Outcome) (t T' : State) (L : List Loc), Qc a (U.calling g mk a) o t ∧ T'.heap = t.heap ∧ T'.vm = t.vm ∧ (∀ q ∈ L, free q.base) ∧ Stand p l e R s m sargs below meth c T' (locs ++ L) (cells + mc) (slots + ms) ∧
      ((∃ v, o = .returned v ∧ Steps p.tables e below (doInvoke e (U.setTop g) [] mk a).1 (T'.setTop { g with pc := g.pc + len, stack := v.toList ++ g.stack })) ∨ (∃ q, o = .threw q ∧ Steps p.tables e below (doInvoke e (U.setTop g) [] mk a).1 ((T'.setTop g).pushFrame (.throwing q)))) := by
  have h1 : (headSpec ws rm).pre.before a U = true := atoms_intro fun w hw => hws w hw _ _ X.warmed
  have h2 : (Cond.code y bytes maxL ret).before a U = true := hws _ hcode _ _ X.warmed
  have h3 : (Cond.initialized y.cls).before a U = true := hinit _ _ X.warmed
  obtain ⟨methY, cY, hmY, hcY, -, hlY, -⟩ := Cond.code_spec hn h2
  obtain ⟨kY, hkY, -⟩ := className_of_methodNamed hn
  have hinitY : kY.init = .initialized := Cond.initialized_spec (findClass_of_methodNamed hn) hkY h3
  have h : At U g.method c below := by rw [hg]; exact X.here
  have happ : (headSpec ws rm).appliesLoose y e.platform (U.calling g mk a) = true :=
    Spec.appliesLoose_calling (g := g) h hdg hn hkY hinitY
      (X.room_calling (g := g) (R' := (headSpec ws rm).room) hsize hmY hcY hframes (by rw [hlY]; show _ ≤ R.locals; have : (headSpec ws rm).room.locals = rm.locals := rfl; omega) (by rw [show (headSpec ws rm).room.cells = mc from hrc]; exact hcells) (by rw [show (headSpec ws rm).room.slots = ms from hrs]; exact hslots)) h1
  obtain ⟨mid, hmid⟩ := h.above
  have hfr : (U.setTop g).frames = (.java g :: mid) ++ below := by rw [State.frames_setTop' g h.top, hmid]; rfl
  obtain ⟨o, s₂, hsteps, -, hend, hq⟩ := Steps.callFree hM p X.admits X.cas X.clock (acts := []) hfr happ (hblind _ _ _ _ hPc) trivial
  rw [State.frames_setTop' g h.top] at hend
  have hq' : zx_Q Qc mc ms free a (U.calling g mk a) o s₂ := hq
  obtain ⟨hQ, hW₂, L, hsn, hL⟩ := hq'
  obtain ⟨e2, q2, q3, q4, q5, q6⟩ := hsn
  have e3 : s₂ = ({ (U.calling g mk a).setFrames s₂.frames with heap := s₂.heap, slotsUsed := s₂.slotsUsed } : State).setVm s₂.vm := by
    have : s₂ = ({ s₂ with vm := (U.calling g mk a).vm } : State).setVm s₂.vm := rfl
    rw [e2] at this
    exact this
  have hW' : U.WarmedH s₂.vm := hW₂
  obtain ⟨g₀, hg0⟩ := Option.isSome_iff_exists.mp h.top
  obtain ⟨r, hr⟩ := State.topJava?_eq_some.mp hg0
  have hr' : (({ U with heap := s₂.heap, slotsUsed := s₂.slotsUsed } : State).setVm s₂.vm).frames = .java g₀ :: r := hr
  have hsame : U.sameButNew ({ U with heap := s₂.heap, slotsUsed := s₂.slotsUsed } : State) L mc ms := by
    refine ⟨?_, q2, q3, q4, q5, q6⟩
    obtain ⟨t, ht, -⟩ := State.frames_cons hr
    show ({ U with heap := s₂.heap, slotsUsed := s₂.slotsUsed } : State) = { U.setFrames U.frames with heap := s₂.heap, slotsUsed := s₂.slotsUsed }
    rw [State.setFrames_self ht]
  subst hg
  refine ⟨o, s₂, (({ U with heap := s₂.heap, slotsUsed := s₂.slotsUsed } : State).setVm s₂.vm), L, hQ, rfl, rfl, hL,
    ⟨X.admits, X.cas, X.clock, X.frames, X.room, X.hears, X.method, X.code, (X.here.setHeapUsed s₂.heap s₂.slotsUsed).setVm hW'.alike, X.tail, State.WarmedH.trans X.warmed hW', X.limits, X.bytes, X.same.trans (hsame.setVm s.vm)⟩, ?_⟩
  cases o with
  | returned v =>
    left
    refine ⟨v, rfl, ?_⟩
    obtain ⟨c₂, i₂, len₂, hc₂, hd₂, hf₂⟩ := hend
    have hcc : c₂ = c := by
      have h1 : s₂.code? g.method = U.code? g.method := by
        rw [State.code?_eq, State.code?_eq, hW'.alike.method?]
      exact Option.some.inj (hc₂.symm.trans (h1.trans h.code))
    subst hcc
    have hlen : len₂ = len := by rw [hdg] at hd₂; cases hd₂; rfl
    subst hlen
    have hs₂ : s₂ = (({ U with heap := s₂.heap, slotsUsed := s₂.slotsUsed } : State).setVm s₂.vm).setTop { g with pc := g.pc + len₂, stack := v.toList ++ g.stack } := by
      refine e3.trans ?_
      rw [hf₂, State.calling_eq h.top, State.setFrames_setFrames, State.setTop_of_frames _ hr', hr]
      rfl
    rw [← hs₂]
    exact hsteps
  | threw q =>
    right
    refine ⟨q, rfl, ?_⟩
    have hf₂ : s₂.frames = .throwing q :: .java g :: r := by
      have h9 : s₂.frames = .throwing q :: (.java g :: U.frames.tail) := hend
      rw [h9, hr]
      rfl
    have hs₂ : s₂ = ((({ U with heap := s₂.heap, slotsUsed := s₂.slotsUsed } : State).setVm s₂.vm).setTop g).pushFrame (.throwing q) := by
      refine e3.trans ?_
      rw [State.pushFrame, State.frames_setTop _ hr', State.setTop_of_frames _ hr', State.setFrames_setFrames, hf₂, State.calling_eq h.top, State.setFrames_setFrames]
      rfl
    rw [← hs₂]
    exact hsteps
end ZXB
def zx_WX (p : Program) (l : Launch) (e : Env) (R : Room) (s : State) (m : MethodId) (args : Array Value) (below : List Frame) (meth : Method) (c : Code) (H : Heap) (locs : List Loc) (cells slots : Nat) (Q : State → Prop) (g : JFrame) (q : Addr) : Prop :=
  ∀ T : State, T.heap = H → Stand p l e R s m args below meth c T locs cells slots → ∃ t, Steps p.tables e below ((T.setTop g).pushFrame (.throwing q)) t ∧ Q t
section ZXC
variable {p : Program} {l : Launch} {e : Env} {R : Room} {s : State} {m : MethodId} {args : Array Value} {below : List Frame} {meth : Method} {c : Code} {H : Heap} {locs : List Loc} {cells slots mc ms : Nat} {Q : State → Prop}
variable {y : MethodName} {bytes cc : ByteArray} {maxL nL n index : Nat} {ret : Option FieldType} {ws : List Cond} {rm : Room} {Pc : Array Value → State → Prop} {Qc : Array Value → State → Outcome → State → Prop} {free : Addr → Prop} {own C : String} {b : Addr} {As rest : List Value} {g : JFrame}
theorem zx_runV (hx : p.tables.exec = Jvm.exec) (hb : c.code = cc) (hml : c.maxLocals = nL) (ho : s.vm.findClass own = some m.cls) (hM : zx_Met l y ws rm Pc Qc mc ms free) (cw : CallW R s args own C index y bytes maxL ret ws rm mc ms n) (hp : PreV s H C b Pc As)
    (hg : g.method = m) (hn : As.length = n) (hsize : g.locals.size = nL) (hstack : g.stack = As.reverse ++ .ref b :: rest) (hW : 2 * g.monitorRoom + (rest.map fun v => v.category).sum ≤ 8) (hdg : decode cc g.pc = .ok (.invokevirtual index, 3)) (hf : cells + mc ≤ R.cells ∧ slots + ms ≤ R.slots)
    (k : ∀ (o : Outcome) (st₀ t : State) (L : List Loc), st₀.heap = H → s.vm.Alike st₀.vm → Qc (Value.ref b :: As).toArray st₀ o t → s.vm.Alike t.vm → (∀ q ∈ L, free q.base) →
      (∀ v, o = .returned v → W p l e R s m args below meth c t.heap (locs ++ L) (cells + mc) (slots + ms) Q { g with pc := g.pc + 3, stack := v.toList ++ rest }) ∧ (∀ q, o = .threw q → zx_WX p l e R s m args below meth c t.heap (locs ++ L) (cells + mc) (slots + ms) Q { g with stack := rest } q)) : W p l e R s m args below meth c H locs cells slots Q g := by
  obtain ⟨⟨hrc, hrs, hfr, hlo, hws, hcw, hcode, hini, hy, hlen, hl⟩, hin, hse⟩ := cw
  obtain ⟨hblind, ⟨cellB, hcB, hoB, hclB⟩, hPc⟩ := hp
  intro T hT X
  obtain ⟨mk, methM, hnamed, hmethM, hstM, habM⟩ := Cond.instanceMethod_spec hin
  obtain ⟨methM', cM, hmethM', -, -, -, -, -, -, hsigM⟩ := Cond.code_spec hnamed hcode
  cases hmethM.symm.trans hmethM'
  obtain ⟨c2, r2, m2, q1, q2, q3, q4, kP, hkP, hkPi⟩ := Cond.selects_spec hse
  cases hclB.symm.trans q1
  cases (State.methodFound?_of_named hnamed hy).symm.trans q2
  cases hnamed.symm.trans q3
  have hselP : selectMethod e.platform s.vm cellB.cls mk = .method mk := by rw [Launch.admits_selectMethod X.admits]; exact q4
  obtain ⟨vm₁, X₁, hstep₁⟩ := X.invokevirtual hx ho hl hnamed hmethM hstM hkP hkPi hy (a := b) (cell := cellB) (by rw [hT]; exact hcB)
    (fun z h => by rw [h] at hoB; cases hoB) hselP hmethM habM hkP hkPi (g := g) hg (argsL := As) (rest := rest) (hn.trans (hlen _ hsigM)) hstack (by rw [hb]; exact hdg)
  obtain ⟨o, t, T', L, hQ, e1, e2, hL, X', hend⟩ := zx_back (g := { g with stack := rest }) (len := 3) (W9 := 8) (a := (Value.ref b :: As).toArray) hM hblind hrc hrs hfr hlo hws hcw (fun a' U hW => word_at hW (Or.inl (by first | rfl | simp [Cond.onTables, Cond.keeps, Cond.steady])) hini) X₁ hg (hsize.trans hml.symm) (by rw [hb]; exact hdg) hW (X₁.named hnamed) hf.1 hf.2 (hPc (T.setVm vm₁) hT X₁.warmed)
  have k1 := k o ((T.setVm vm₁).calling { g with stack := rest } mk (Value.ref b :: As).toArray) t L hT X₁.warmed.alike hQ (by rw [← e2]; exact X'.warmed.alike) hL
  rcases hend with ⟨v, hv, st⟩ | ⟨q, hq, st⟩
  · obtain ⟨t2, a1, b1⟩ := k1.1 v hv T' e1 X'
    exact ⟨t2, hstep₁ _ fun acts => by rw [doInvoke_state]; exact st.trans a1, b1⟩
  · obtain ⟨t2, a1, b1⟩ := k1.2 q hq T' e1 X'
    exact ⟨t2, hstep₁ _ fun acts => by rw [doInvoke_state]; exact st.trans a1, b1⟩
theorem zx_runS (hx : p.tables.exec = Jvm.exec) (hb : c.code = cc) (hml : c.maxLocals = nL) (ho : s.vm.findClass own = some m.cls) (hM : zx_Met l y ws rm Pc Qc mc ms free) (cw : CallB R s args own index y bytes maxL ret ws rm mc ms n ∧ (Cond.static y).before args s = true) (hp : PreS s H Pc As)
    (hg : g.method = m) (hn : As.length = n) (hsize : g.locals.size = nL) (hstack : g.stack = As.reverse ++ rest) (hW : 2 * g.monitorRoom + (rest.map fun v => v.category).sum ≤ 8) (hdg : decode cc g.pc = .ok (.invokestatic index, 3)) (hf : cells + mc ≤ R.cells ∧ slots + ms ≤ R.slots)
    (k : ∀ (o : Outcome) (st₀ t : State) (L : List Loc), st₀.heap = H → s.vm.Alike st₀.vm → Qc As.toArray st₀ o t → s.vm.Alike t.vm → (∀ q ∈ L, free q.base) →
      (∀ v, o = .returned v → W p l e R s m args below meth c t.heap (locs ++ L) (cells + mc) (slots + ms) Q { g with pc := g.pc + 3, stack := v.toList ++ rest }) ∧ (∀ q, o = .threw q → zx_WX p l e R s m args below meth c t.heap (locs ++ L) (cells + mc) (slots + ms) Q { g with stack := rest } q)) : W p l e R s m args below meth c H locs cells slots Q g := by
  obtain ⟨⟨hrc, hrs, hfr, hlo, hws, hcw, hcode, hini, hy, hlen, hl⟩, hstat⟩ := cw
  obtain ⟨hblind, hPc⟩ := hp
  intro T hT X
  obtain ⟨mk, hnamed⟩ := Cond.code_named hcode
  obtain ⟨methM, cM, hmethM, -, -, -, -, -, -, hsigM⟩ := Cond.code_spec hnamed hcode
  have hstatic : methM.isStatic = true := Cond.static_spec hnamed hmethM hstat
  obtain ⟨kP, hkP, -⟩ := className_of_methodNamed hnamed
  have hinitP : kP.init = .initialized := Cond.initialized_spec (findClass_of_methodNamed hnamed) hkP hini
  obtain ⟨vm₁, X₁, hstep₁⟩ := X.invokestatic hx ho hl hnamed hmethM hstatic hkP hinitP hy (g := g) hg (argsL := As) (rest := rest) (hn.trans (hlen _ hsigM)) hstack (by rw [hb]; exact hdg)
  obtain ⟨o, t, T', L, hQ, e1, e2, hL, X', hend⟩ := zx_back (g := { g with stack := rest }) (len := 3) (W9 := 8) (a := As.toArray) hM hblind hrc hrs hfr hlo hws hcw (fun a' U hW => word_at hW (Or.inl (by first | rfl | simp [Cond.onTables, Cond.keeps, Cond.steady])) hini) X₁ hg (hsize.trans hml.symm) (by rw [hb]; exact hdg) hW (X₁.named hnamed) hf.1 hf.2 (hPc (T.setVm vm₁) hT X₁.warmed)
  have k1 := k o ((T.setVm vm₁).calling { g with stack := rest } mk As.toArray) t L hT X₁.warmed.alike hQ (by rw [← e2]; exact X'.warmed.alike) hL
  rcases hend with ⟨v, hv, st⟩ | ⟨q, hq, st⟩
  · obtain ⟨t2, a1, b1⟩ := k1.1 v hv T' e1 X'
    exact ⟨t2, hstep₁ _ fun acts => by rw [doInvoke_state]; exact st.trans a1, b1⟩
  · obtain ⟨t2, a1, b1⟩ := k1.2 q hq T' e1 X'
    exact ⟨t2, hstep₁ _ fun acts => by rw [doInvoke_state]; exact st.trans a1, b1⟩
theorem zx_runSN {host : String} (hx : p.tables.exec = Jvm.exec) (hb : c.code = cc) (hml : c.maxLocals = nL) (ho : s.vm.findClass own = some m.cls) (hM : zx_Met l y ws rm Pc Qc mc ms free) (cw : va_CN R s args own index y host bytes maxL ret ws rm mc ms n ∧ (Cond.static y).before args s = true) (hp : PreS s H Pc As)
    (hg : g.method = m) (hn : As.length = n) (hsize : g.locals.size = nL) (hstack : g.stack = As.reverse ++ rest) (hW : 2 * g.monitorRoom + (rest.map fun v => v.category).sum ≤ 8) (hdg : decode cc g.pc = .ok (.invokestatic index, 3)) (hf : cells + mc ≤ R.cells ∧ slots + ms ≤ R.slots)
    (k : ∀ (o : Outcome) (st₀ t : State) (L : List Loc), st₀.heap = H → s.vm.Alike st₀.vm → Qc As.toArray st₀ o t → s.vm.Alike t.vm → (∀ q ∈ L, free q.base) →
      (∀ v, o = .returned v → W p l e R s m args below meth c t.heap (locs ++ L) (cells + mc) (slots + ms) Q { g with pc := g.pc + 3, stack := v.toList ++ rest }) ∧ (∀ q, o = .threw q → zx_WX p l e R s m args below meth c t.heap (locs ++ L) (cells + mc) (slots + ms) Q { g with stack := rest } q)) : W p l e R s m args below meth c H locs cells slots Q g := by
  obtain ⟨⟨⟨hrc, hrs, hfr, hlo, hws, hcw⟩, hcode, hini, hy, hlen, hl⟩, hstat⟩ := cw
  obtain ⟨hblind, hPc⟩ := hp
  intro T hT X
  obtain ⟨mk, hnamed⟩ := Cond.code_named hcode
  obtain ⟨methM, cM, hmethM, -, -, -, -, -, -, hsigM⟩ := Cond.code_spec hnamed hcode
  have hstatic : methM.isStatic = true := Cond.static_spec hnamed hmethM hstat
  obtain ⟨kP, hkP, -⟩ := className_of_methodNamed hnamed
  have hinitP : kP.init = .initialized := Cond.initialized_spec (findClass_of_methodNamed hnamed) hkP hini
  obtain ⟨vm₁, X₁, hstep₁⟩ := X.invokestaticNest hx ho hl hnamed hmethM hstatic hkP hinitP hy (g := g) hg (argsL := As) (rest := rest) (hn.trans (hlen _ hsigM)) hstack (by rw [hb]; exact hdg)
  obtain ⟨o, t, T', L, hQ, e1, e2, hL, X', hend⟩ := zx_back (g := { g with stack := rest }) (len := 3) (W9 := 8) (a := As.toArray) hM hblind hrc hrs hfr hlo hws hcw (fun a' U hW => word_at hW (Or.inl (by first | rfl | simp [Cond.onTables, Cond.keeps, Cond.steady])) hini) X₁ hg (hsize.trans hml.symm) (by rw [hb]; exact hdg) hW (X₁.named hnamed) hf.1 hf.2 (hPc (T.setVm vm₁) hT X₁.warmed)
  have k1 := k o ((T.setVm vm₁).calling { g with stack := rest } mk As.toArray) t L hT X₁.warmed.alike hQ (by rw [← e2]; exact X'.warmed.alike) hL
  rcases hend with ⟨v, hv, st⟩ | ⟨q, hq, st⟩
  · obtain ⟨t2, a1, b1⟩ := k1.1 v hv T' e1 X'
    exact ⟨t2, hstep₁ _ fun acts => by rw [doInvoke_state]; exact st.trans a1, b1⟩
  · obtain ⟨t2, a1, b1⟩ := k1.2 q hq T' e1 X'
    exact ⟨t2, hstep₁ _ fun acts => by rw [doInvoke_state]; exact st.trans a1, b1⟩
/-- not caught here -/
theorem zx_out {lc : Array Slot} {pc : Nat} {q : Addr} (hout : ∀ x ∈ c.exceptionTable.toList, covers x pc = false) (hlocks : meth.locks = false) {args : Array Value}
    (hx : ∀ t : State, t.heap = H → s.vm.Alike t.vm → Qc args s (.threw q) t) (hfr : ∀ z ∈ locs, free z.base) : zx_WX p l e R s m args below meth c H locs cells slots (zx_MQ below Qc args s cells slots free) (F0 m pc lc rest) q := by
  intro T hT X
  obtain ⟨st1, hrun, hend, hW, hsm⟩ := X.leaveThrown q (g := F0 m pc lc rest) rfl rfl rfl hout hlocks
  exact ⟨_, st1, .threw q, hrun, hend, hx _ hT hW.alike, hW, locs, hsm, hfr⟩
end ZXC
end
section
/-! METHODS: a contract over the layout; a method's body proved by runs of the abstract machine alone. -/
/-- a method: 0 static or 1 of an object, its class's number, its name, code, locals, what it returns -/
abbrev zk_Me : Type := Nat × Nat × MethodName × ByteArray × Nat × Option FieldType
/-- the law's run: launch, addresses, array classes, classes and slots, array types -/
abbrev zk_G : Type := Launch × (Nat → Nat → Nat) × (Nat → ClassId) × va_G × List (ClassId × FieldType)
/-- the layout, the counts, the classes, their fields' types, the words, the methods, the exceptions' names -/
abbrev zk_T : Type := List za_S × (Nat → Nat) × List vw_C × (Nat → Nat → FieldType) × List Cond × List zk_Me × (Nat → String)
def zk_X0 : za_X := (false, 0, 0, fun _ => 0)
def zk_A (Θ : zk_T) (Γ : zk_G) (sz : Nat) : Nat → Prop := fun q => (∃ b j : Nat, b < Θ.1.length ∧ j < Θ.2.1 b ∧ q = Γ.2.1 b j) ∨ sz ≤ q
def zk_W (Θ : zk_T) (U : State) : Prop := ∀ w ∈ Θ.2.2.2.2.1, ∀ a : Array Value, w.before a U = true
def zk_H (Θ : zk_T) (Γ : zk_G) (μ : za_M) (H : Heap) : Prop := va_P Γ.2.2.2.1 Θ.2.2.1 (za_ws Θ.1 Θ.2.1 Γ.2.1 Γ.2.2.1 μ) H
def zk_okr (Θ : zk_T) (r : Option za_V) : Prop := match r with
  | none => True
  | some v => za_ok Θ.2.1 v
/-- what holds wherever a method begins, beside its arguments and the memory; E: what else the run keeps -/
def zk_I (Θ : zk_T) (Γ : zk_G) (U : State) : Prop := zk_W Θ U ∧ va_K Γ.2.2.2.1 Θ.2.2.1 Γ.2.2.2.2 U ∧ (∀ ν : za_M, va_D (fun _ => True) (za_ws Θ.1 Θ.2.1 Γ.2.1 Γ.2.2.1 ν)) ∧ za_ty Θ.1 Γ.2.2.1 Γ.2.2.2.2
def zk_Pc (Θ : zk_T) (Γ : zk_G) (sz : Nat) (as : List za_V) (μ : za_M) : Array Value → State → Prop := fun v U =>
  v = (as.map (za_cv Γ.2.1)).toArray ∧ U.heap.size = sz ∧ zk_H Θ Γ μ U.heap ∧ za_oks Θ.2.1 as ∧ zk_I Θ Γ U
def zk_Qc (Θ : zk_T) (Γ : zk_G) (sz : Nat) (post : Option za_V → za_M → Prop) (px : Nat → za_M → Prop) : Array Value → State → Outcome → State → Prop := fun _ st o t =>
  ((∃ (r : Option za_V) (μ : za_M), o = .returned (r.map (za_cv Γ.2.1)) ∧ zk_okr Θ r ∧ post r μ ∧ zk_H Θ Γ μ t.heap) ∨
    (∃ (q E : Nat) (ce : Cell) (μ : za_M), o = .threw q ∧ px E μ ∧ zk_H Θ Γ μ t.heap ∧ t.heap[q]? = some ce ∧ ce.vm = .none ∧ st.vm.findClass (Θ.2.2.2.2.2.2 E) = some ce.cls)) ∧ va_F (zk_A Θ Γ sz) st t
def zk_rm (d mc ms : Nat) : Room := { frames := d, cells := mc, slots := ms, locals := 64 * d }
def zk_Ct (Θ : zk_T) (Γ : zk_G) (M : zk_Me) (d mc ms : Nat) (as : List za_V) (μ : za_M) (post : Option za_V → za_M → Prop) (px : Nat → za_M → Prop) : Prop :=
  ∀ sz : Nat, zx_Met Γ.1 M.2.2.1 [Cond.code M.2.2.1 M.2.2.2.1 M.2.2.2.2.1 M.2.2.2.2.2] (zk_rm d mc ms) (zk_Pc Θ Γ sz as μ) (zk_Qc Θ Γ sz post px) mc ms (zk_A Θ Γ sz)
/-- the receiver is an object of the method's class -/
def zk_rc (Λ : List za_S) (M : zk_Me) (as : List za_V) : Bool := match M.1 with
  | 0 => true
  | _ => (match as with
    | .inr (.inr (.inl (b, _))) :: _ => (match za_n Λ b with
      | some (4, ci, _) => Nat.beq ci M.2.1
      | _ => false)
    | _ => false)
def zk_CC (Θ : zk_T) (Γ : zk_G) (d mc ms : Nat) : za_CC := fun y as μ κ k x => match za_n Θ.2.2.2.2.2.1 y with
  | some M => (match zk_rc Θ.1 M as with
    | true => ∃ (d' mc' ms' : Nat) (post : Option za_V → za_M → Prop) (px : Nat → za_M → Prop), d' < d ∧ κ.1 + mc' ≤ mc ∧ κ.2 + ms' ≤ ms ∧ zk_Ct Θ Γ M d' mc' ms' as μ post px ∧ (∀ r μ1, post r μ1 → k r μ1 (κ.1 + mc', κ.2 + ms')) ∧ (∀ E μ1, px E μ1 → x E μ1 (κ.1 + mc', κ.2 + ms'))
    | false => False)
  | none => False
def zk_RR (mc ms : Nat) (post : Option za_V → za_M → Prop) : za_RR := fun r μ κ => κ.1 ≤ mc ∧ κ.2 ≤ ms ∧ post r μ
/-- what is asked of a row that calls -/
def zk_gc (Θ : zk_T) (own : String) (e : za_E) : Prop := match e.2.1 with
  | .invokevirtual k => ∃ (M : zk_Me) (q : vw_C), za_n Θ.2.2.2.2.2.1 e.2.2.2.1 = some M ∧ M.1 = 1 ∧ Θ.2.2.1[M.2.1]? = some q ∧ q.1 = M.2.2.1.cls ∧ Cond.methodLink own k M.2.2.1 ∈ Θ.2.2.2.2.1 ∧ Cond.instanceMethod M.2.2.1 ∈ Θ.2.2.2.2.1 ∧ Cond.selects M.2.2.1.cls M.2.2.1 M.2.2.1 ∈ Θ.2.2.2.2.1 ∧ (parseMethodDescriptor M.2.2.1.desc).map (fun z => z.parameters.length + 1) = some e.2.2.2.2.1
  | .invokestatic k => (e.2.2.2.1 = 999 ∧ Cond.methodLink own k arraycopyName ∈ Θ.2.2.2.2.1 ∧ Cond.native arraycopyName ∈ Θ.2.2.2.2.1 ∧ Cond.static arraycopyName ∈ Θ.2.2.2.2.1 ∧ Cond.initialized "java/lang/System" ∈ Θ.2.2.2.2.1) ∨
    ∃ M : zk_Me, ¬ e.2.2.2.1 = 999 ∧ za_n Θ.2.2.2.2.2.1 e.2.2.2.1 = some M ∧ M.1 = 0 ∧ (Cond.methodLink own k M.2.2.1 ∈ Θ.2.2.2.2.1 ∨ ∃ host : String, Cond.methodLinkNest own k M.2.2.1 host ∈ Θ.2.2.2.2.1) ∧ Cond.static M.2.2.1 ∈ Θ.2.2.2.2.1 ∧ (parseMethodDescriptor M.2.2.1.desc).map (fun z => z.parameters.length) = some e.2.2.2.2.1
  | .invokespecial _ => False
  | _ => True
def zk_gm (Θ : zk_T) (M : zk_Me) : Prop := Cond.code M.2.2.1 M.2.2.2.1 M.2.2.2.2.1 M.2.2.2.2.2 ∈ Θ.2.2.2.2.1 ∧ Cond.initialized M.2.2.1.cls ∈ Θ.2.2.2.2.1 ∧ (M.2.2.1.cls ≠ "java/lang/invoke/MethodHandle" ∧ M.2.2.1.cls ≠ "java/lang/invoke/VarHandle") ∧ plainName M.2.2.1.cls = true ∧ M.2.2.2.2.1 ≤ 40
/-- what is asked of the tables -/
def zk_gt (Θ : zk_T) : Prop := za_wf Θ.1 Θ.2.1 ∧ za_cg Θ.2.2.2.2.1 Θ.2.2.1 Θ.2.2.2.1 Θ.1 ∧ (∀ M ∈ Θ.2.2.2.2.2.1, zk_gm Θ M) ∧ ∀ w ∈ Θ.2.2.2.2.1, goodWord w = true ∨ ∃ a i x h, w = Cond.methodLinkNest a i x h
/-- rows one behind the other -/
def zk_ch : List za_E → Prop
  | [] => True
  | [_] => True
  | e :: e' :: r => e.2.2.1 = e'.1 ∧ zk_ch (e' :: r)
def zk_go (Λ : List za_S) (X : za_X) (ret : Nat) (RR : za_RR) (XX : za_XX) (CC : za_CC) (HX : Nat → Nat → za_C → za_M → Nat × Nat → Prop) (prog : List za_E) (cuts : List Nat) (ZZ : Nat → za_K) (n pc : Nat) : za_K := fun ls st μ κ => match za_at pc prog with
  | [] => False
  | e :: r => za_stp Λ X ret RR XX CC (HX e.1) (fun ls st μ κ => za_wp Λ X ret RR XX CC HX prog cuts ZZ n r ls st μ κ) (fun t ls st μ κ => za_wp Λ X ret RR XX CC HX prog cuts ZZ n (za_at t prog) ls st μ κ) e ls st μ κ
theorem zk_W.warm {Θ : zk_T} (hT : zk_gt Θ) {s U : State} (hW : s.WarmedH U.vm) (h : zk_W Θ s) : zk_W Θ U := by
  intro w hw a
  rcases hT.2.2.2 w hw with hg | ⟨a1, i, x, h1, rfl⟩
  · exact word_at hW (good_of_word hg) (h w hw a)
  · exact va_Nw.use rfl (va_Nw.warmM hW (h _ hw #[]))
theorem zk_I.warm {Θ : zk_T} {Γ : zk_G} (hT : zk_gt Θ) {s U : State} (hW : s.WarmedH U.vm) (h : zk_I Θ Γ s) : zk_I Θ Γ U := ⟨h.1.warm hT hW, va_K.moved hW.alike h.2.1, h.2.2.1, h.2.2.2⟩
theorem zk_blind {Θ : zk_T} {Γ : zk_G} (hT : zk_gt Θ) {sz : Nat} {as : List za_V} {μ : za_M} : FrameBlind (zk_Pc Θ Γ sz as μ) := by
  intro a U g mk h
  exact ⟨h.1, h.2.1, h.2.2.1, h.2.2.2.1, zk_I.warm (U := U.calling g mk a) hT (State.WarmedH.refl U) h.2.2.2.2⟩
theorem zk_at_spec {t : Nat} {prog : List za_E} {e : za_E} {r : List za_E} (h : za_at t prog = e :: r) : e.1 = t ∧ (∀ x ∈ e :: r, x ∈ prog) ∧ (zk_ch prog → zk_ch (e :: r)) := by
  induction prog with
  | nil => cases h
  | cons a b ih =>
    unfold za_at at h
    split at h
    · rename_i hb
      cases h
      exact ⟨Nat.eq_of_beq_eq_true hb, fun x hx => hx, fun hc => hc⟩
    · obtain ⟨h1, h2, h3⟩ := ih h
      refine ⟨h1, fun x hx => List.mem_cons_of_mem _ (h2 x hx), fun hc => h3 ?_⟩
      cases b with
      | nil => trivial
      | cons b1 b2 => exact hc.2
theorem za_oks_app {cn : Nat → Nat} {a b : List za_V} : za_oks cn (a ++ b) ↔ za_oks cn a ∧ za_oks cn b := by
  induction a with
  | nil => exact ⟨fun h => ⟨trivial, h⟩, fun h => h.2⟩
  | cons v a ih =>
    show (za_ok cn v ∧ za_oks cn (a ++ b)) ↔ ((za_ok cn v ∧ za_oks cn a) ∧ za_oks cn b)
    rw [ih]
    exact ⟨fun h => ⟨⟨h.1, h.2.1⟩, h.2.2⟩, fun h => ⟨h.1.1, h.1.2, h.2⟩⟩
theorem za_oks_rev {cn : Nat → Nat} {a : List za_V} : za_oks cn a.reverse ↔ za_oks cn a := by
  induction a with
  | nil => exact Iff.rfl
  | cons v a ih =>
    rw [List.reverse_cons, za_oks_app, ih]
    exact ⟨fun h => ⟨h.2.1, h.1⟩, fun h => ⟨h.2, h.1, trivial⟩⟩
theorem za_oks_split {cn : Nat → Nat} {a t : List za_V} (h : za_oks cn (a.reverse ++ t)) : za_oks cn a ∧ za_oks cn t := by
  rw [za_oks_app, za_oks_rev] at h
  exact h
end
section
/-! a method's body by runs -/
def zk_rt (r : Option FieldType) : Nat := match r with
  | none => 0
  | some .int => 1
  | some .boolean => 2
  | some .long => 3
  | some (.object _) => 4
  | some (.array _) => 4
  | _ => 9
theorem zk_A.up {Θ : zk_T} {Γ : zk_G} {a b : Nat} (h : a ≤ b) {q : Nat} (hq : zk_A Θ Γ b q) : zk_A Θ Γ a q := by
  rcases hq with hq | hq
  · exact Or.inl hq
  · exact Or.inr (Nat.le_trans h hq)
section ZKA
variable {p : Program} {l : Launch} {e : Env} {R : Room} {s : State} {m : MethodId} {args : Array Value} {below : List Frame} {meth : Method} {c : Code} {Q : State → Prop} {Θ : zk_T} {Γ : zk_G} {nL : Nat}
/-- where the method stands, in the words of the tables -/
abbrev zk_Z (p : Program) (e : Env) (R : Room) (s : State) (m : MethodId) (args : Array Value) (below : List Frame) (meth : Method) (c : Code) (Q : State → Prop) (Θ : zk_T) (Γ : zk_G) (nL : Nat) : Nat → za_K := za_Z p Γ.1 e R s m args below meth c Θ.1 Θ.2.1 Γ.2.1 Γ.2.2.1 Γ.2.2.2.1 Θ.2.2.1 (zk_A Θ Γ s.heap.size) nL Q
/-- behind a call -/
theorem zk_after {sz' : Nat} {post : Option za_V → za_M → Prop} {px : Nat → za_M → Prop} {a : Array Value} {o : Outcome} {st₀ t : State} {L locs : List Loc} {H : Heap} {κ : Nat × Nat} {pc nx : Nat} {ls : za_C} {rest : List za_V} {lc : Array Slot}
    (hsz : sz' = H.size) (h0 : st₀.heap = H) (hvm : st₀.vm = s.vm ∨ s.vm.Alike st₀.vm) (hQ : zk_Qc Θ Γ sz' post px a st₀ o t) (hL : ∀ q ∈ L, zk_A Θ Γ sz' q.base) (hS : va_S (zk_A Θ Γ s.heap.size) s.heap H locs) (hlo : za_lo Γ.2.1 nL ls lc) (hokc : za_okc Θ.2.1 ls) (hok : za_oks Θ.2.1 rest)
    (hk : ∀ r μ1, post r μ1 → za_back r rest (fun t1 => zk_Z p e R s m args below meth c Q Θ Γ nL nx ls t1 μ1 κ))
    (hx : ∀ E μ1 q ce H1 locs1, px E μ1 → zk_H Θ Γ μ1 H1 → va_S (zk_A Θ Γ s.heap.size) s.heap H1 locs1 → H1[q]? = some ce → ce.vm = .none → s.vm.findClass (Θ.2.2.2.2.2.2 E) = some ce.cls → zx_WX p Γ.1 e R s m args below meth c H1 locs1 κ.1 κ.2 Q (F0 m pc lc (rest.map (za_cv Γ.2.1))) q) :
    (∀ v, o = .returned v → W p Γ.1 e R s m args below meth c t.heap (locs ++ L) κ.1 κ.2 Q (F0 m nx lc (v.toList ++ rest.map (za_cv Γ.2.1)))) ∧ (∀ q, o = .threw q → zx_WX p Γ.1 e R s m args below meth c t.heap (locs ++ L) κ.1 κ.2 Q (F0 m pc lc (rest.map (za_cv Γ.2.1))) q) := by
  subst hsz
  obtain ⟨hend, hF1, hF2⟩ := hQ
  rw [h0] at hF1 hF2
  have hS1 : va_S (zk_A Θ Γ s.heap.size) s.heap t.heap (locs ++ L) := by
    refine ⟨Nat.le_trans hS.1 hF1, fun q h1 h2 => ?_, fun q hq => ?_⟩
    · rw [hF2 q (Nat.lt_of_lt_of_le h1 hS.1) (fun z => h2 (zk_A.up hS.1 z))]
      exact hS.2.1 q h1 h2
    · rcases List.mem_append.mp hq with h | h
      · exact hS.2.2 q h
      · exact zk_A.up hS.1 (hL q h)
  refine ⟨fun v hv => ?_, fun q hq => ?_⟩
  · rcases hend with ⟨r, μ1, ho, hokr, hpost, hP⟩ | ⟨q, E, ce, μ1, ho, -⟩
    · rw [hv] at ho
      cases ho
      have h9 := hk r μ1 hpost
      cases r with
      | none => exact h9 hok hokc lc t.heap (locs ++ L) hlo hP hS1
      | some v => exact h9 ⟨hokr, hok⟩ hokc lc t.heap (locs ++ L) hlo hP hS1
    · rw [hv] at ho; cases ho
  · rcases hend with ⟨r, μ1, ho, -⟩ | ⟨q', E, ce, μ1, ho, hpx, hP, hce, hcv, hcl⟩
    · rw [hq] at ho; cases ho
    · rw [hq] at ho
      cases ho
      refine hx E μ1 q ce t.heap (locs ++ L) hpx hP hS1 hce hcv ?_
      rcases hvm with h | h
      · rw [← h]; exact hcl
      · rw [← h.findClass]; exact hcl
end ZKA
section ZKB
variable {p : Program} {e : Env} {s : State} {m : MethodId} {args : Array Value} {below : List Frame} {meth : Method} {c : Code} {Q : State → Prop} {Θ : zk_T} {Γ : zk_G} {nL d mc ms : Nat} {cc : ByteArray} {own : String}
/-- a call, over contracts -/
theorem zk_call (hT : zk_gt Θ) (C0 : za_Cx p s m args c Θ.1 Θ.2.1 Γ.2.1 Γ.2.2.1 Γ.2.2.2.1 Θ.2.2.1 (zk_A Θ Γ s.heap.size) cc Γ.2.2.2.2 zk_X0 own Θ.2.2.2.2.1 Θ.2.2.2.1) (hI : zk_I Θ Γ s) (hml : c.maxLocals = nL)
    {E : za_E} {ls : za_C} {st as t : List za_V} {μ : za_M} {κ : Nat × Nat} {k : Nat} {KK : za_RR} {XX : za_XX} (hG : zk_gc Θ own E) (hdg : decode cc E.1 = .ok (E.2.1, 3)) (hnx : E.2.2.1 = E.1 + 3) (hst : st = as.reverse ++ t) (hlen : as.length = E.2.2.2.2.1) (hwt : za_wt t ≤ 8) (hin : E.2.1 = .invokevirtual k ∨ (E.2.1 = .invokestatic k ∧ ¬ E.2.2.2.1 = 999))
    (hKK : ∀ r μ1 κ1, KK r μ1 κ1 → za_back r t (fun t1 => zk_Z p e (zk_rm d mc ms) s m args below meth c Q Θ Γ nL E.2.2.1 ls t1 μ1 κ1))
    (hXX : ∀ x μ1 κ1 q ce lc H1 locs1, XX x μ1 κ1 → za_lo Γ.2.1 nL ls lc → zk_H Θ Γ μ1 H1 → va_S (zk_A Θ Γ s.heap.size) s.heap H1 locs1 → H1[q]? = some ce → ce.vm = .none → s.vm.findClass (Θ.2.2.2.2.2.2 x) = some ce.cls → zx_WX p Γ.1 e (zk_rm d mc ms) s m args below meth c H1 locs1 κ1.1 κ1.2 Q (F0 m E.1 lc (t.map (za_cv Γ.2.1))) q)
    (h : zk_CC Θ Γ d mc ms E.2.2.2.1 as μ κ KK XX) : zk_Z p e (zk_rm d mc ms) s m args below meth c Q Θ Γ nL E.1 ls st μ κ := by
  obtain ⟨hx, hb, hts, hown, hK, hD, -⟩ := C0
  intro h1 h2 lc H locs h3 h4 h5
  unfold zk_CC at h
  split at h
  · rename_i M hM
    split at h
    · rename_i hrc
      obtain ⟨d', mc', ms', post, px, hd, hc1, hc2, hCt, hp, hpx⟩ := h
      have hgm := hT.2.2.1 M (by rw [za_n_eq] at hM; exact List.mem_of_getElem? hM)
      have hoks : za_oks Θ.2.1 as ∧ za_oks Θ.2.1 t := by
        rw [hst] at h1
        exact za_oks_split h1
      have hPc : ∀ U : State, U.heap = H → s.WarmedH U.vm → zk_Pc Θ Γ H.size as μ (as.map (za_cv Γ.2.1)).toArray U := fun U hU hW => ⟨rfl, by rw [hU], by rw [hU]; exact h4, hoks.1, hI.warm hT hW⟩
      have hws : ∀ w ∈ [Cond.code M.2.2.1 M.2.2.2.1 M.2.2.2.2.1 M.2.2.2.2.2], ∀ (a' : Array Value) (U : State), s.WarmedH U.vm → w.before a' U = true := fun w hw a' U hW => (hI.1.warm hT hW) w (by rw [List.mem_singleton.mp hw]; exact hgm.1) a'
      have hroom : (zk_rm d' mc' ms').frames + 1 ≤ (zk_rm d mc ms).frames ∧ 8 + (M.2.2.2.2.1 + 11) + (zk_rm d' mc' ms').locals ≤ (zk_rm d mc ms).locals := by
        refine ⟨hd, ?_⟩
        show 8 + (M.2.2.2.2.1 + 11) + 64 * d' ≤ 64 * d
        have := hgm.2.2.2.2
        omega
      have hstk : (st.map (za_cv Γ.2.1)) = (as.map (za_cv Γ.2.1)).reverse ++ t.map (za_cv Γ.2.1) := by rw [hst, List.map_append, List.map_reverse]
      have hweight : 2 * (F0 m E.1 lc (st.map (za_cv Γ.2.1))).monitorRoom + ((t.map (za_cv Γ.2.1)).map fun v => v.category).sum ≤ 8 := by
        rw [za_wt_cat]
        exact Nat.le_trans (Nat.le_of_eq (by show 2 * 0 + _ = _; omega)) hwt
      have hfin := fun (o : Outcome) (st₀ t' : State) (L : List Loc) (g0 : st₀.heap = H) (g1 : s.vm.Alike st₀.vm) (g2 : zk_Qc Θ Γ H.size post px (as.map (za_cv Γ.2.1)).toArray st₀ o t') (g4 : ∀ q ∈ L, zk_A Θ Γ H.size q.base) =>
        zk_after (p := p) (e := e) (R := zk_rm d mc ms) (s := s) (m := m) (args := args) (below := below) (meth := meth) (c := c) (Q := Q) (nL := nL) (κ := (κ.1 + mc', κ.2 + ms')) (pc := E.1) (nx := E.2.2.1) (rest := t) rfl g0 (Or.inr g1) g2 g4 h5 h3 h2 hoks.2 (fun r μ1 hr => hKK r μ1 _ (hp r μ1 hr))
          (fun x μ1 q ce H1 locs1 g5 g6 g7 g8 g9 g10 => hXX x μ1 _ q ce lc H1 locs1 (hpx x μ1 g5) h3 g6 g7 g8 g9 g10)
      have hini := hts _ hgm.2.1
      have hcode := hts _ hgm.1
      unfold zk_gc at hG
      rcases hin with hi | ⟨hi, h999⟩
      · rw [hi] at hG hdg
        obtain ⟨M', q, g1, g2, g3, g4, g5, g6, g7, g8⟩ := hG
        cases hM.symm.trans g1
        cases as with
        | nil =>
          unfold zk_rc at hrc
          rw [g2] at hrc
          cases hrc
        | cons v as' =>
          obtain ⟨b, j, hv, fs, hΛ⟩ : ∃ b j, v = .inr (.inr (.inl (b, j))) ∧ ∃ fs, za_n Θ.1 b = some (4, M.2.1, fs) := by
            unfold zk_rc at hrc
            rw [g2] at hrc
            simp only at hrc
            split at hrc
            · rename_i b j tl heq
              cases heq
              split at hrc
              · rename_i ci fs hΛ
                exact ⟨b, j, rfl, fs, by rw [hΛ, Nat.eq_of_beq_eq_true hrc]⟩
              · cases hrc
            · cases hrc
          subst hv
          have hlive : j < Θ.2.1 b := hoks.1.1
          obtain ⟨q0, -, hq0⟩ := za_ws_at Γ.2.1 Γ.2.2.1 μ hΛ hlive
          have hen : za_en Θ.1 Γ.2.1 Γ.2.2.1 μ b j = .inr (M.2.1, za_fs Γ.2.1 μ b j 0 fs) := by simp only [za_en, hΛ]
          rw [hen] at hq0
          have hrecv := va_recv hK h4 g3 hq0
          rw [g4] at hrecv
          refine zx_runV (As := as'.map (za_cv Γ.2.1)) (rest := t.map (za_cv Γ.2.1)) (b := Γ.2.1 b j) (n := as'.length) (C := M.2.2.1.cls) (own := own) (bytes := M.2.2.2.1) (maxL := M.2.2.2.2.1) (ret := M.2.2.2.2.2) hx hb hml hown (hCt H.size)
            ⟨⟨rfl, rfl, hroom.1, hroom.2, hws, List.mem_singleton.mpr rfl, hcode, hini, hgm.2.2.1, fun sig hsig => ?_, hts _ g5⟩, hts _ g6, hts _ g7⟩ ⟨zk_blind hT, hrecv, hPc⟩ rfl (by simp) h3.2.1 (by rw [hstk]; simp; rfl) hweight hdg ⟨hc1, hc2⟩ (fun o st₀ t' L g0 g1 g2 _ g4 => by rw [← hnx]; exact hfin o st₀ t' L g0 g1 g2 g4)
          rw [hsig] at g8
          simp only [Option.map_some, Option.some.injEq] at g8
          simp only [List.length_cons] at hlen
          omega
      · rw [hi] at hG hdg
        rcases hG with ⟨hbad, -⟩ | ⟨M', -, g1, g2, g3, g4, g5⟩
        · exact absurd hbad h999
        · cases hM.symm.trans g1
          have hn : ∀ sig, parseMethodDescriptor M.2.2.1.desc = some sig → as.length = sig.parameters.length := by
            intro sig hsig
            rw [hsig] at g5
            simp only [Option.map_some, Option.some.injEq] at g5
            omega
          rcases g3 with g3 | ⟨host, g3⟩
          · exact zx_runS (As := as.map (za_cv Γ.2.1)) (rest := t.map (za_cv Γ.2.1)) (n := as.length) (own := own) (bytes := M.2.2.2.1) (maxL := M.2.2.2.2.1) (ret := M.2.2.2.2.2) hx hb hml hown (hCt H.size)
              ⟨⟨rfl, rfl, hroom.1, hroom.2, hws, List.mem_singleton.mpr rfl, hcode, hini, hgm.2.2.1, hn, hts _ g3⟩, hts _ g4⟩ ⟨zk_blind hT, hPc⟩ rfl (by simp) h3.2.1 hstk hweight hdg ⟨hc1, hc2⟩ (fun o st₀ t' L g0 g1 g2 _ g4 => by rw [← hnx]; exact hfin o st₀ t' L g0 g1 g2 g4)
          · exact zx_runSN (host := host) (As := as.map (za_cv Γ.2.1)) (rest := t.map (za_cv Γ.2.1)) (n := as.length) (own := own) (bytes := M.2.2.2.1) (maxL := M.2.2.2.2.1) (ret := M.2.2.2.2.2) hx hb hml hown (hCt H.size)
              ⟨⟨⟨rfl, rfl, hroom.1, hroom.2, hws, List.mem_singleton.mpr rfl⟩, hcode, hini, hgm.2.2.1, hn, hts _ g3⟩, hts _ g4⟩ ⟨zk_blind hT, hPc⟩ rfl (by simp) h3.2.1 hstk hweight hdg ⟨hc1, hc2⟩ (fun o st₀ t' L g0 g1 g2 _ g4 => by rw [← hnx]; exact hfin o st₀ t' L g0 g1 g2 g4)
    · exact h.elim
  · exact h.elim
end ZKB
end
section
/-! a contract out of runs: methods that throw nothing and whose callees throw nothing -/
section ZKC
variable {p : Program} {e : Env} {s : State} {m : MethodId} {args : Array Value} {below : List Frame} {meth : Method} {c : Code} {Θ : zk_T} {Γ : zk_G} {d mc ms : Nat}
/-- the walk until the cuts is sound, if its steps are -/
theorem zk_wp_sound {Λ : List za_S} {X : za_X} {ret : Nat} {RR : za_RR} {XX : za_XX} {CC : za_CC} {HX : Nat → Nat → za_C → za_M → Nat × Nat → Prop} {prog : List za_E} {cuts : List Nat} {ZZ : Nat → za_K} (hch : zk_ch prog)
    (step : ∀ E ∈ prog, ∀ (K : za_K) (J : Nat → za_K) ls st μ κ, (∀ ls st μ κ, K ls st μ κ → ZZ E.2.2.1 ls st μ κ) → (∀ t ls st μ κ, J t ls st μ κ → ZZ t ls st μ κ) → za_stp Λ X ret RR XX CC (HX E.1) K J E ls st μ κ → ZZ E.1 ls st μ κ) :
    ∀ (n : Nat) (E : za_E) (r : List za_E), (∀ x ∈ E :: r, x ∈ prog) → zk_ch (E :: r) → ∀ ls st μ κ, za_wp Λ X ret RR XX CC HX prog cuts ZZ n (E :: r) ls st μ κ → ZZ E.1 ls st μ κ := by
  intro n
  induction n with
  | zero => intro E r _ _ ls st μ κ h; exact h.elim
  | succ n ih =>
    intro E r hr hc ls st μ κ h
    unfold za_wp at h
    split at h
    · exact h
    · refine step E (hr E List.mem_cons_self) _ _ ls st μ κ ?_ ?_ h
      · intro ls st μ κ h
        cases r with
        | nil => cases n <;> exact h.elim
        | cons E' r' =>
          rw [hc.1]
          exact ih E' r' (fun x hx => hr x (List.mem_cons_of_mem _ hx)) hc.2 ls st μ κ h
      · intro t ls st μ κ h
        cases ha : za_at t prog with
        | nil => rw [ha] at h; cases n <;> exact h.elim
        | cons E' r' =>
          rw [ha] at h
          obtain ⟨h1, h2, h3⟩ := zk_at_spec ha
          have := ih E' r' h2 (h3 hch) ls st μ κ h
          rw [h1] at this
          exact this
theorem zk_go_sound {Λ : List za_S} {X : za_X} {ret : Nat} {RR : za_RR} {XX : za_XX} {CC : za_CC} {HX : Nat → Nat → za_C → za_M → Nat × Nat → Prop} {prog : List za_E} {ZZ : Nat → za_K} (hch : zk_ch prog)
    (step : ∀ E ∈ prog, ∀ (K : za_K) (J : Nat → za_K) ls st μ κ, (∀ ls st μ κ, K ls st μ κ → ZZ E.2.2.1 ls st μ κ) → (∀ t ls st μ κ, J t ls st μ κ → ZZ t ls st μ κ) → za_stp Λ X ret RR XX CC (HX E.1) K J E ls st μ κ → ZZ E.1 ls st μ κ)
    (cuts : List Nat) (n pc : Nat) (ls : za_C) (st : List za_V) (μ : za_M) (κ : Nat × Nat) (h : zk_go Λ X ret RR XX CC HX prog cuts ZZ n pc ls st μ κ) : ZZ pc ls st μ κ := by
  unfold zk_go at h
  cases ha : za_at pc prog with
  | nil => rw [ha] at h; exact h.elim
  | cons E r =>
    rw [ha] at h
    obtain ⟨h1, h2, h3⟩ := zk_at_spec ha
    rw [← h1]
    refine step E (h2 E List.mem_cons_self) _ _ ls st μ κ ?_ ?_ h
    · intro ls st μ κ h
      cases r with
      | nil => cases n <;> exact h.elim
      | cons E' r' =>
        rw [(h3 hch).1]
        exact zk_wp_sound hch step n E' r' (fun x hx => h2 x (List.mem_cons_of_mem _ hx)) (h3 hch).2 ls st μ κ h
    · intro t ls st μ κ h
      cases hb : za_at t prog with
      | nil => rw [hb] at h; cases n <;> exact h.elim
      | cons E' r' =>
        rw [hb] at h
        obtain ⟨g1, g2, g3⟩ := zk_at_spec hb
        have := zk_wp_sound hch step n E' r' g2 (g3 hch) ls st μ κ h
        rw [g1] at this
        exact this
/-- a start's locals: the arguments in their places, then nothing -/
def zk_l0 : List za_V → List (Option za_V)
  | [] => []
  | .inr (.inl x) :: t => some (.inr (.inl x)) :: none :: zk_l0 t
  | v :: t => some v :: zk_l0 t
def zk_ls (as : List za_V) (nL : Nat) : za_C := zk_l0 as ++ List.replicate (nL - (zk_l0 as).length) none
theorem zk_l0_len (ad : Nat → Nat → Nat) : ∀ as : List za_V, (zk_l0 as).length = (lg_sl (as.map (za_cv ad))).length
  | [] => rfl
  | .inl x :: t => by
    have := zk_l0_len ad t
    simp only [zk_l0, List.map_cons, za_cv, lg_sl, List.length_cons, this]
    rfl
  | .inr (.inl x) :: t => by
    have := zk_l0_len ad t
    simp only [zk_l0, List.map_cons, za_cv, lg_sl, List.length_cons, this]
    rfl
  | .inr (.inr (.inl q)) :: t => by
    have := zk_l0_len ad t
    simp only [zk_l0, List.map_cons, za_cv, lg_sl, List.length_cons, this]
    rfl
  | .inr (.inr (.inr a)) :: t => by
    have := zk_l0_len ad t
    simp only [zk_l0, List.map_cons, za_cv, lg_sl, List.length_cons, this]
    rfl
end ZKC
end
section
/-! the start's locals; the contract of a method out of runs -/
theorem zk_l0_mem (ad : Nat → Nat → Nat) : ∀ (as : List za_V) (i0 i : Nat) (v : za_V), (zk_l0 as)[i]? = some (some v) → (i0 + i, za_cv ad v) ∈ lv_args i0 (as.map (za_cv ad)) ∧ v ∈ as
  | [], i0, i, v, h => by simp [zk_l0] at h
  | .inl x :: t, i0, i, v, h => by
    cases i with
    | zero =>
      simp only [zk_l0, List.getElem?_cons_zero, Option.some.injEq] at h
      subst h
      exact ⟨List.mem_cons_self, List.mem_cons_self⟩
    | succ i =>
      simp only [zk_l0, List.getElem?_cons_succ] at h
      obtain ⟨h1, h2⟩ := zk_l0_mem ad t (i0 + 1) i v h
      refine ⟨List.mem_cons_of_mem _ ?_, List.mem_cons_of_mem _ h2⟩
      rw [show i0 + (i + 1) = i0 + 1 + i by omega]
      exact h1
  | .inr (.inl x) :: t, i0, i, v, h => by
    cases i with
    | zero =>
      simp only [zk_l0, List.getElem?_cons_zero, Option.some.injEq] at h
      subst h
      exact ⟨List.mem_cons_self, List.mem_cons_self⟩
    | succ i =>
      cases i with
      | zero => simp [zk_l0] at h
      | succ i =>
        simp only [zk_l0, List.getElem?_cons_succ] at h
        obtain ⟨h1, h2⟩ := zk_l0_mem ad t (i0 + 2) i v h
        refine ⟨List.mem_cons_of_mem _ ?_, List.mem_cons_of_mem _ h2⟩
        rw [show i0 + (i + 1 + 1) = i0 + 2 + i by omega]
        exact h1
  | .inr (.inr (.inl q)) :: t, i0, i, v, h => by
    cases i with
    | zero =>
      simp only [zk_l0, List.getElem?_cons_zero, Option.some.injEq] at h
      subst h
      exact ⟨List.mem_cons_self, List.mem_cons_self⟩
    | succ i =>
      simp only [zk_l0, List.getElem?_cons_succ] at h
      obtain ⟨h1, h2⟩ := zk_l0_mem ad t (i0 + 1) i v h
      refine ⟨List.mem_cons_of_mem _ ?_, List.mem_cons_of_mem _ h2⟩
      rw [show i0 + (i + 1) = i0 + 1 + i by omega]
      exact h1
  | .inr (.inr (.inr a)) :: t, i0, i, v, h => by
    cases i with
    | zero =>
      simp only [zk_l0, List.getElem?_cons_zero, Option.some.injEq] at h
      subst h
      exact ⟨List.mem_cons_self, List.mem_cons_self⟩
    | succ i =>
      simp only [zk_l0, List.getElem?_cons_succ] at h
      obtain ⟨h1, h2⟩ := zk_l0_mem ad t (i0 + 1) i v h
      refine ⟨List.mem_cons_of_mem _ ?_, List.mem_cons_of_mem _ h2⟩
      rw [show i0 + (i + 1) = i0 + 1 + i by omega]
      exact h1
theorem zk_ls_at {as : List za_V} {nL i : Nat} {v : za_V} (h : za_n (zk_ls as nL) i = some (some v)) : (zk_l0 as)[i]? = some (some v) := by
  rw [za_n_eq, zk_ls] at h
  by_cases hi : i < (zk_l0 as).length
  · rw [List.getElem?_append_left hi] at h
    exact h
  · rw [List.getElem?_append_right (by omega), List.getElem?_replicate] at h
    split at h <;> cases h
theorem zk_oks_mem {cn : Nat → Nat} {as : List za_V} (h : za_oks cn as) {v : za_V} (hv : v ∈ as) : za_ok cn v := by
  induction as with
  | nil => cases hv
  | cons a t ih =>
    rcases List.mem_cons.mp hv with rfl | hv
    · exact h.1
    · exact ih h.2 hv
theorem zk_entry {ad : Nat → Nat → Nat} {as : List za_V} {nL : Nat} (hn : (zk_l0 as).length ≤ nL) : za_lo ad nL (zk_ls as nL) ((lg_sl (as.map (za_cv ad)) ++ List.replicate (nL - (lg_sl (as.map (za_cv ad))).length) Slot.unset).toArray) := by
  have h := lv_entry (as.map (za_cv ad)) (n := nL) (by rw [← zk_l0_len]; exact hn)
  refine ⟨?_, h.1, h.2.1, fun i v hv => ?_⟩
  · simp only [zk_ls, List.length_append, List.length_replicate]
    omega
  · have h1 := (zk_l0_mem ad as 0 i v (zk_ls_at hv)).1
    rw [Nat.zero_add] at h1
    exact h.2.2 _ h1
theorem zk_D {Θ : zk_T} {Γ : zk_G} {sz : Nat} (h : ∀ ν : za_M, va_D (fun _ => True) (za_ws Θ.1 Θ.2.1 Γ.2.1 Γ.2.2.1 ν)) (ν : za_M) : va_D (zk_A Θ Γ sz) (za_ws Θ.1 Θ.2.1 Γ.2.1 Γ.2.2.1 ν) := by
  refine ⟨(h ν).1, fun k q hk => ?_⟩
  obtain ⟨x, hx, rfl⟩ := List.mem_map.mp (List.mem_of_getElem? hk)
  have := za_ps_mem.mp hx
  exact Or.inl ⟨x.1, x.2, this.1, this.2, rfl⟩
set_option maxHeartbeats 4000000 in
theorem zk_meth0 {Θ : zk_T} {Γ : zk_G} {M : zk_Me} {d mc ms : Nat} {as : List za_V} {μ : za_M} {post : Option za_V → za_M → Prop} (hT : zk_gt Θ) (hMm : M ∈ Θ.2.2.2.2.2.1) (prog : List za_E) (hprog : ∀ E ∈ prog, za_gd M.2.2.2.1 M.2.2.1.cls Θ.2.2.2.2.1 Θ.2.2.1 E ∧ zk_gc Θ M.2.2.1.cls E) (hch : zk_ch prog) (hargs : (zk_l0 as).length ≤ M.2.2.2.2.1) (hd : 1 ≤ d)
    (body : ∀ ZZ : Nat → za_K, (∀ (cuts : List Nat) (n pc : Nat) ls st μ κ, zk_go Θ.1 zk_X0 (zk_rt M.2.2.2.2.2) (zk_RR mc ms post) (fun _ _ _ => False) (zk_CC Θ Γ d mc ms) (fun _ _ _ _ _ => False) prog cuts ZZ n pc ls st μ κ → ZZ pc ls st μ κ) → ZZ 0 (zk_ls as M.2.2.2.2.1) [] μ (0, 0)) :
    zk_Ct Θ Γ M d mc ms as μ post (fun _ _ => False) := by
  have hgm := hT.2.2.1 M hMm
  intro sz
  refine zx_ofW (cc := M.2.2.2.1) (maxL := M.2.2.2.2.1) (ret := M.2.2.2.2.2) (ws' := []) hgm.2.2.2.1 rfl ?_
  intro p e s m args below meth c s₁ B hml hnoex hP
  obtain ⟨rfl, hsz, hH, hoks, hI⟩ := hP
  subst hsz
  have hx := B.exec
  have hb := B.bytes
  have hr := B.returns
  have hlocks := B.notSynchronized
  have hown : s.vm.findClass M.2.2.1.cls = some m.cls := findClass_of_methodNamed B.named
  have C0 : za_Cx p s m (as.map (za_cv Γ.2.1)).toArray c Θ.1 Θ.2.1 Γ.2.1 Γ.2.2.1 Γ.2.2.2.1 Θ.2.2.1 (zk_A Θ Γ s.heap.size) M.2.2.2.1 Γ.2.2.2.2 zk_X0 M.2.2.1.cls Θ.2.2.2.2.1 Θ.2.2.2.1 :=
    ⟨hx, hb, fun w hw => hI.1 w hw _, hown, hI.2.1, zk_D hI.2.2.1, hT.1, hI.2.2.2, hT.2.1, fun h => by cases h⟩
  rw [lg_entry_eq]
  have key := body (zk_Z p e (zk_rm d mc ms) s m (as.map (za_cv Γ.2.1)).toArray below meth c (zx_MQ below (zk_Qc Θ Γ s.heap.size post (fun _ _ => False)) (as.map (za_cv Γ.2.1)).toArray s mc ms (zk_A Θ Γ s.heap.size)) Θ Γ M.2.2.2.2.1) ?_
  · exact key trivial (fun i v hv => zk_oks_mem hoks (zk_l0_mem Γ.2.1 as 0 i v (zk_ls_at hv)).2) _ _ [] (zk_entry hargs) hH va_S.rf
  · refine zk_go_sound hch ?_
    intro E hE K J ls st ν κ hK hJ h
    obtain ⟨hgd, hgc⟩ := hprog E hE
    refine ze_step C0 hgd hK hJ ?_ ?_ ?_ ?_ ?_ ?_ ?_ h
    · rintro x ν κ hret ⟨h1, h2, hp⟩ hdg g1 g2 lc H locs g3 g4 g5
      refine zx_ret (W.widen h1 h2 ?_)
      rcases hret with h0 | ⟨h0, h01⟩
      · have h9 : M.2.2.2.2.2 = some .int := by
          revert h0
          unfold zk_rt
          split <;> simp_all
        exact W.iret (v := x) hx hb (hr.trans h9) (fun t ht hW => ⟨Or.inl ⟨some (za_i x), ν, rfl, trivial, hp, by rw [ht]; exact g4⟩, g5.F ht⟩) g5.2.2 hdg
      · have h9 : M.2.2.2.2.2 = some .boolean := by
          revert h0
          unfold zk_rt
          split <;> simp_all
        exact W.zret (v := x) (ty := .boolean) hx hb (hr.trans h9) (za_narF h01).1 (fun t ht hW => ⟨Or.inl ⟨some (za_i x), ν, rfl, trivial, hp, by rw [ht]; exact g4⟩, g5.F ht⟩) g5.2.2 hdg
    · rintro x ν κ h0 ⟨h1, h2, hp⟩ hdg g1 g2 lc H locs g3 g4 g5
      refine zx_ret (W.widen h1 h2 ?_)
      have h9 : M.2.2.2.2.2 = some .long := by
        revert h0
        unfold zk_rt
        split <;> simp_all
      exact W.lret (v := x) hx hb (hr.trans h9) (fun t ht hW => ⟨Or.inl ⟨some (za_l x), ν, rfl, trivial, hp, by rw [ht]; exact g4⟩, g5.F ht⟩) g5.2.2 hdg
    · rintro r ν κ h0 ⟨h1, h2, hp⟩ hdg g1 g2 lc H locs g3 g4 g5
      refine zx_ret (W.widen h1 h2 ?_)
      obtain ⟨a, ha⟩ := za_cvA Γ.2.1 r
      have h9 : ∃ rt, M.2.2.2.2.2 = some rt ∧ ((∃ n, rt = .object n) ∨ ∃ t, rt = .array t) := by
        revert h0
        unfold zk_rt
        split <;> simp_all
      obtain ⟨rt, h9, h10⟩ := h9
      exact W.aret (v := za_cv Γ.2.1 (.inr (.inr r))) (rt := rt) hx hb (hr.trans h9) h10 (Or.inr ⟨a, ha⟩) (fun t ht hW => ⟨Or.inl ⟨some (.inr (.inr r)), ν, rfl, g1.1, hp, by rw [ht]; exact g4⟩, g5.F ht⟩) g5.2.2 hdg
    · rintro ν κ h0 ⟨h1, h2, hp⟩ hdg g1 g2 lc H locs g3 g4 g5
      refine zx_ret (W.widen h1 h2 ?_)
      have h9 : M.2.2.2.2.2 = none := by
        revert h0
        unfold zk_rt
        split <;> simp_all
      exact W.vret hx hb (hr.trans h9) (fun t ht hW => ⟨Or.inl ⟨none, ν, rfl, trivial, hp, by rw [ht]; exact g4⟩, g5.F ht⟩) g5.2.2 hdg
    · intro k as' t hst hlen hwt hin h999 hCC
      have hdg := hgd.1
      have hnx := hgd.2.1
      have h3 : za_ln E.2.1 E.2.2.2.2.1 = 3 := by rcases hin with h | h | h <;> rw [h] <;> rfl
      rw [h3] at hdg hnx
      have hsp : ¬ E.2.1 = .invokespecial k := by
        intro hq
        unfold zk_gc at hgc
        rw [hq] at hgc
        exact hgc
      refine zk_call (k := k) hT C0 hI hml hgc hdg hnx hst hlen hwt ?_ (fun r μ1 κ1 hr => ?_) (fun x μ1 κ1 q ce lc H1 locs1 hf => hf.elim) hCC
      · rcases hin with h | h | h
        · exact Or.inl h
        · exact absurd h hsp
        · exact Or.inr ⟨h, h999 h⟩
      · cases r with
        | none => exact hK _ _ _ _ hr
        | some v => exact hK _ _ _ _ hr
    · intro k hi h999 hcp
      unfold zk_gc at hgc
      rw [hi] at hgc
      have hdg := hgd.1
      have hnx := hgd.2.1
      rw [hi] at hdg hnx
      rcases hgc with ⟨-, g1, g2, g3, g4⟩ | ⟨M', g0, -⟩
      · rw [hnx] at hK
        refine zf_cp hx hb hml hI.2.1 (zk_D hI.2.2.1) hI.2.2.2 hown (hI.1 _ g1 _) (hI.1 _ g2 _) (hI.1 _ g3 _) (hI.1 _ g4 _) hd ?_ hdg (za_cp_mono (fun v t h => hK _ _ _ _ h) hcp)
        show 8 + (nativeFrameWords "java/lang/System" "arraycopy" 5 + 11) ≤ 64 * d
        have : nativeFrameWords "java/lang/System" "arraycopy" 5 ≤ 45 := by decide
        omega
      · exact absurd h999 g0
    · intro k hi hf
      exact hf.elim
end
