/-! THE ABSTRACT MACHINE, pure: what a method's instructions do to numbers and to a layout of cells; 'za_wp' is a proposition that computes: whnf of it walks the code. -/
/-- a value: an int, a long, a cell of the layout (its block, its number there), a bare address -/
abbrev za_V : Type := Int32 ⊕ Int64 ⊕ (Nat × Nat) ⊕ Nat
abbrev za_i (x : Int32) : za_V := .inl x
abbrev za_l (x : Int64) : za_V := .inr (.inl x)
abbrev za_r (b j : Nat) : za_V := .inr (.inr (.inl (b, j)))
abbrev za_q (a : Nat) : za_V := .inr (.inr (.inr a))
/-- what the cells hold: block, number, place -/
abbrev za_M : Type := (Nat → Nat → Nat → Int32) × (Nat → Nat → Nat → Int64)
/-- a block's shape: (0, n, _) int[n]; (1, n, _) boolean[n]; (2, n, _) long[n]; (3, n, [(b, _, _)]) an array of n references, the i-th of the cell j to the cell (b, n * j + i); (4, c, fs) objects of class c, a field (0, 0, _) an int, (0, 1, _) a boolean, (1, b, j) always the cell (b, j), (2, b, _) the cell of b with the object's own number -/
abbrev za_S : Type := Nat × Nat × List (Nat × Nat × Nat)
/-- an instruction: pc, itself, the next pc, two numbers of ours, a constant of ours -/
abbrev za_E : Type := Nat × Instr × Nat × Nat × Nat × Int32
abbrev za_C : Type := List (Option za_V)
abbrev za_K : Type := za_C → List za_V → za_M → Nat × Nat → Prop
def za_n {α : Type} : List α → Nat → Option α
  | [], _ => none
  | a :: _, 0 => some a
  | _ :: t, i + 1 => za_n t i
def za_set {α : Type} : List α → Nat → α → (List α → Prop) → Prop
  | [], _, _, _ => False
  | _ :: t, 0, v, k => k (v :: t)
  | a :: t, i + 1, v, k => za_set t i v (fun t' => k (a :: t'))
def za_u {α : Type} (f : Nat → Nat → Nat → α) (b j i : Nat) (x : α) : Nat → Nat → Nat → α := fun b' j' i' => if b' = b ∧ j' = j ∧ i' = i then x else f b' j' i'
def za_ix (j n i : Nat) : Nat := match j with
  | 0 => i
  | j' + 1 => n * (j' + 1) + i
def za_kill (ls : za_C) (i : Nat) (k : za_C → Prop) : Prop := match za_n ls i with
  | some (some (.inr (.inl _))) => za_set ls i none k
  | _ => k ls
def za_pre (ls : za_C) (i : Nat) (k : za_C → Prop) : Prop := match i with
  | 0 => k ls
  | i' + 1 => za_kill ls i' k
def za_st1 (ls : za_C) (i : Nat) (v : za_V) (k : za_C → Prop) : Prop := za_pre ls i (fun l1 => za_set l1 i (some v) k)
def za_st2 (ls : za_C) (i : Nat) (v : za_V) (k : za_C → Prop) : Prop := za_pre ls i (fun l1 => za_set l1 i (some v) (fun l2 => za_set l2 (i + 1) none k))
def za_ldI (ls : za_C) (i : Nat) (k : Int32 → Prop) : Prop := match za_n ls i with
  | some (some (.inl x)) => k x
  | _ => False
def za_ldL (ls : za_C) (i : Nat) (k : Int64 → Prop) : Prop := match za_n ls i with
  | some (some (.inr (.inl x))) => k x
  | _ => False
def za_ldA (ls : za_C) (i : Nat) (k : za_V → Prop) : Prop := match za_n ls i with
  | some (some (.inr (.inr r))) => k (.inr (.inr r))
  | _ => False
def za_1 (st : List za_V) (k : Int32 → List za_V → Prop) : Prop := match st with
  | .inl x :: t => k x t
  | _ => False
def za_2 (st : List za_V) (k : Int32 → Int32 → List za_V → Prop) : Prop := match st with
  | .inl y :: .inl x :: t => k x y t
  | _ => False
def za_L1 (st : List za_V) (k : Int64 → List za_V → Prop) : Prop := match st with
  | .inr (.inl x) :: t => k x t
  | _ => False
def za_L2 (st : List za_V) (k : Int64 → Int64 → List za_V → Prop) : Prop := match st with
  | .inr (.inl y) :: .inr (.inl x) :: t => k x y t
  | _ => False
def za_LI (st : List za_V) (k : Int64 → Int32 → List za_V → Prop) : Prop := match st with
  | .inl y :: .inr (.inl x) :: t => k x y t
  | _ => False
def za_A1 (st : List za_V) (k : za_V → List za_V → Prop) : Prop := match st with
  | .inr (.inr r) :: t => k (.inr (.inr r)) t
  | _ => False
def za_br (c : Jvm.ClassFile.Cond) (x y : Int32) (A B : Prop) : Prop := match c with
  | .eq => (x = y → A) ∧ (¬ x = y → B)
  | .ne => (¬ x = y → A) ∧ (x = y → B)
  | .lt => (x < y → A) ∧ (¬ x < y → B)
  | .ge => (y ≤ x → A) ∧ (¬ y ≤ x → B)
  | .gt => (y < x → A) ∧ (¬ y < x → B)
  | .le => (x ≤ y → A) ∧ (¬ x ≤ y → B)
/-- a field read -/
def za_gf (Λ : List za_S) (μ : za_M) (b j c f : Nat) (k : za_V → Prop) : Prop := match za_n Λ b with
  | some (4, c', fs) => (match Nat.beq c' c, za_n fs f with
    | true, some (0, _, _) => k (za_i (μ.1 b j f))
    | true, some (1, b', j') => k (za_r b' j')
    | true, some (2, b', _) => k (za_r b' j)
    | _, _ => False)
  | _ => False
/-- a field written -/
def za_pf (Λ : List za_S) (μ : za_M) (b j c f : Nat) (x : Int32) (k : za_M → Prop) : Prop := match za_n Λ b with
  | some (4, c', fs) => (match Nat.beq c' c, za_n fs f with
    | true, some (0, 0, _) => k (za_u μ.1 b j f x, μ.2)
    | true, some (0, 1, _) => (x = 0 ∨ x = 1) ∧ k (za_u μ.1 b j f x, μ.2)
    | _, _ => False)
  | _ => False
def za_pop : Nat → List za_V → List za_V → (List za_V → List za_V → Prop) → Prop
  | 0, st, acc, k => k acc st
  | _ + 1, [], _, _ => False
  | n + 1, v :: st, acc, k => za_pop n st (v :: acc) k
def za_mem : Nat → List Nat → Bool
  | _, [] => false
  | a, b :: t => match Nat.beq a b with
    | true => true
    | false => za_mem a t
def za_at : Nat → List za_E → List za_E
  | _, [] => []
  | t, e :: r => match Nat.beq e.1 t with
    | true => e :: r
    | false => za_at t r
/-- an array read and written -/
def za_ia (Λ : List za_S) (μ : za_M) (kd b j : Nat) (i : Int32) (k : za_V → Prop) : Prop := match za_n Λ b with
  | some (0, n, _) => (match kd with
    | 0 => vp_in i n ∧ k (za_i (μ.1 b j i.toNatClampNeg))
    | _ => False)
  | some (1, n, _) => (match kd with
    | 1 => vp_in i n ∧ k (za_i (μ.1 b j i.toNatClampNeg))
    | _ => False)
  | some (2, n, _) => (match kd with
    | 2 => vp_in i n ∧ k (za_l (μ.2 b j i.toNatClampNeg))
    | _ => False)
  | some (3, n, (b', _, _) :: _) => (match kd with
    | 3 => vp_in i n ∧ k (za_r b' (za_ix j n i.toNatClampNeg))
    | _ => False)
  | _ => False
def za_is (Λ : List za_S) (μ : za_M) (kd b j : Nat) (i x : Int32) (k : za_M → Prop) : Prop := match za_n Λ b with
  | some (0, n, _) => (match kd with
    | 0 => vp_in i n ∧ k (za_u μ.1 b j i.toNatClampNeg x, μ.2)
    | _ => False)
  | some (1, n, _) => (match kd with
    | 1 => vp_in i n ∧ (x = 0 ∨ x = 1) ∧ k (za_u μ.1 b j i.toNatClampNeg x, μ.2)
    | _ => False)
  | _ => False
def za_ls (Λ : List za_S) (μ : za_M) (b j : Nat) (i : Int32) (x : Int64) (k : za_M → Prop) : Prop := match za_n Λ b with
  | some (2, n, _) => vp_in i n ∧ k (μ.1, za_u μ.2 b j i.toNatClampNeg x)
  | _ => False
def za_al (Λ : List za_S) (b : Nat) (k : Int32 → Prop) : Prop := match za_n Λ b with
  | some (0, n, _) => k (nI n)
  | some (1, n, _) => k (nI n)
  | some (2, n, _) => k (nI n)
  | some (3, n, _ :: _) => k (nI n)
  | _ => False
/-- the script: whether there is one, its address, its length, its ints -/
abbrev za_X : Type := Bool × Nat × Nat × (Nat → Int32)
def za_ald (Λ : List za_S) (X : za_X) (μ : za_M) (kd : Nat) (st : List za_V) (k : za_V → List za_V → Prop) : Prop := match st with
  | .inl i :: .inr (.inr (.inl (b, j))) :: t => za_ia Λ μ kd b j i (fun v => k v t)
  | .inl i :: .inr (.inr (.inr a)) :: t => X.1 = true ∧ kd = 0 ∧ a = X.2.1 ∧ vp_in i X.2.2.1 ∧ k (za_i (X.2.2.2 i.toNatClampNeg)) t
  | _ => False
def za_ast (Λ : List za_S) (μ : za_M) (kd : Nat) (st : List za_V) (k : za_M → List za_V → Prop) : Prop := match st with
  | .inl x :: .inl i :: .inr (.inr (.inl (b, j))) :: t => za_is Λ μ kd b j i x (fun m => k m t)
  | .inr (.inl x) :: .inl i :: .inr (.inr (.inl (b, j))) :: t => (match kd with
    | 2 => za_ls Λ μ b j i x (fun m => k m t)
    | _ => False)
  | _ => False
def za_len (Λ : List za_S) (X : za_X) (st : List za_V) (k : Int32 → List za_V → Prop) : Prop := match st with
  | .inr (.inr (.inl (b, _))) :: t => za_al Λ b (fun x => k x t)
  | .inr (.inr (.inr a)) :: t => X.1 = true ∧ a = X.2.1 ∧ k (nI X.2.2.1) t
  | _ => False
def za_get (Λ : List za_S) (μ : za_M) (c f : Nat) (st : List za_V) (k : za_V → List za_V → Prop) : Prop := match st with
  | .inr (.inr (.inl (b, j))) :: t => za_gf Λ μ b j c f (fun v => k v t)
  | _ => False
def za_put (Λ : List za_S) (μ : za_M) (c f : Nat) (st : List za_V) (k : za_M → List za_V → Prop) : Prop := match st with
  | .inl x :: .inr (.inr (.inl (b, j))) :: t => za_pf Λ μ b j c f x (fun m => k m t)
  | _ => False
def za_dup (st : List za_V) (k : List za_V → Prop) : Prop := match st with
  | .inl x :: t => k (.inl x :: .inl x :: t)
  | .inr (.inr r) :: t => k (.inr (.inr r) :: .inr (.inr r) :: t)
  | _ => False
def za_dup2 (st : List za_V) (k : List za_V → Prop) : Prop := match st with
  | .inr (.inl x) :: t => k (.inr (.inl x) :: .inr (.inl x) :: t)
  | .inl x :: .inl y :: t => k (.inl x :: .inl y :: .inl x :: .inl y :: t)
  | .inl x :: .inr (.inr r) :: t => k (.inl x :: .inr (.inr r) :: .inl x :: .inr (.inr r) :: t)
  | _ => False
def za_dupx1 (st : List za_V) (k : List za_V → Prop) : Prop := match st with
  | .inl x :: .inl y :: t => k (.inl x :: .inl y :: .inl x :: t)
  | .inl x :: .inr (.inr r) :: t => k (.inl x :: .inr (.inr r) :: .inl x :: t)
  | _ => False
def za_drop1 (st : List za_V) (k : List za_V → Prop) : Prop := match st with
  | .inl _ :: t => k t
  | .inr (.inr _) :: t => k t
  | _ => False
def za_back (r : Option za_V) (t : List za_V) (k : List za_V → Prop) : Prop := match r with
  | none => k t
  | some v => k (v :: t)
/-- words on the stack -/
def za_wt : List za_V → Nat
  | [] => 0
  | .inr (.inl _) :: t => 2 + za_wt t
  | _ :: t => 1 + za_wt t
/-- a row of ints copied over another -/
def za_ur {α : Type} (f : Nat → Nat → Nat → α) (b j : Nat) (r : Nat → α) : Nat → Nat → Nat → α := fun b' j' => if b' = b ∧ j' = j then r else f b' j'
def za_cp (Λ : List za_S) (μ : za_M) (st : List za_V) (k : za_M → List za_V → Prop) : Prop := match st with
  | .inl n :: .inl dp :: .inr (.inr (.inl (bd, jd))) :: .inl sp :: .inr (.inr (.inl (bs, js))) :: t => (match za_n Λ bs, za_n Λ bd with
    | some (0, ns, _), some (0, nd, _) => ¬ sp < 0 ∧ ¬ dp < 0 ∧ ¬ n < 0 ∧ sp.toNatClampNeg + n.toNatClampNeg ≤ ns ∧ dp.toNatClampNeg + n.toNatClampNeg ≤ nd ∧ za_wt t ≤ 8 ∧ k (za_ur μ.1 bd jd (va_cpy (μ.1 bs js) (μ.1 bd jd) sp.toNatClampNeg dp.toNatClampNeg n.toNatClampNeg), μ.2) t
    | _, _ => False)
  | _ => False
def za_cl (n : Nat) (st : List za_V) (k : List za_V → List za_V → Prop) : Prop := za_pop n st [] (fun as t => match Nat.ble (za_wt t) 8 with
  | true => k as t
  | false => False)
abbrev za_RR : Type := Option za_V → za_M → Nat × Nat → Prop
abbrev za_XX : Type := Nat → za_M → Nat × Nat → Prop
abbrev za_CC : Type := Nat → List za_V → za_M → Nat × Nat → za_RR → za_XX → Prop
def za_sw (x : Int32) : Int → List Nat → (Nat → Prop) → Prop → Prop
  | _, [], _, d => d
  | v, t :: r, j, d => (x = Int32.ofInt v → j t) ∧ (¬ x = Int32.ofInt v → za_sw x (v + 1) r j d)
set_option maxHeartbeats 4000000 in
/-- one instruction: K goes on behind it, J jumps, RR returns, XX throws, CC calls, HX: a callee threw -/
def za_stp (Λ : List za_S) (X : za_X) (ret : Nat) (RR : za_RR) (XX : za_XX) (CC : za_CC) (HX : Nat → za_C → za_M → Nat × Nat → Prop) (K : za_K) (J : Nat → za_K) (e : za_E) (ls : za_C) (st : List za_V) (μ : za_M) (κ : Nat × Nat) : Prop := match e with
  | (pc, ins, _, x1, x2, v) => match ins with
  | .iconst _ => K ls (za_i v :: st) μ κ
  | .bipush _ => K ls (za_i v :: st) μ κ
  | .sipush _ => K ls (za_i v :: st) μ κ
  | .ldc _ => K ls (za_i v :: st) μ κ
  | .ldc2_w _ => K ls (za_l v.toInt64 :: st) μ κ
  | .lconst n => K ls (za_l (Int64.ofNat n) :: st) μ κ
  | .iload i => za_ldI ls i (fun x => K ls (za_i x :: st) μ κ)
  | .iload_n i => za_ldI ls i (fun x => K ls (za_i x :: st) μ κ)
  | .lload i => za_ldL ls i (fun x => K ls (za_l x :: st) μ κ)
  | .lload_n i => za_ldL ls i (fun x => K ls (za_l x :: st) μ κ)
  | .aload i => za_ldA ls i (fun v => K ls (v :: st) μ κ)
  | .aload_n i => za_ldA ls i (fun v => K ls (v :: st) μ κ)
  | .istore i => za_1 st (fun x t => za_st1 ls i (za_i x) (fun l1 => K l1 t μ κ))
  | .istore_n i => za_1 st (fun x t => za_st1 ls i (za_i x) (fun l1 => K l1 t μ κ))
  | .lstore i => za_L1 st (fun x t => za_st2 ls i (za_l x) (fun l1 => K l1 t μ κ))
  | .lstore_n i => za_L1 st (fun x t => za_st2 ls i (za_l x) (fun l1 => K l1 t μ κ))
  | .astore i => za_A1 st (fun v t => za_st1 ls i v (fun l1 => K l1 t μ κ))
  | .astore_n i => za_A1 st (fun v t => za_st1 ls i v (fun l1 => K l1 t μ κ))
  | .iinc i _ => za_ldI ls i (fun x => za_st1 ls i (za_i (x + v)) (fun l1 => K l1 st μ κ))
  | .iadd => za_2 st (fun x y t => K ls (za_i (x + y) :: t) μ κ)
  | .isub => za_2 st (fun x y t => K ls (za_i (x - y) :: t) μ κ)
  | .imul => za_2 st (fun x y t => K ls (za_i (x * y) :: t) μ κ)
  | .idiv => za_2 st (fun x y t => ¬ y = 0 ∧ K ls (za_i (x / y) :: t) μ κ)
  | .irem => za_2 st (fun x y t => ¬ y = 0 ∧ K ls (za_i (x - x / y * y) :: t) μ κ)
  | .ineg => za_1 st (fun x t => K ls (za_i (-x) :: t) μ κ)
  | .iand => za_2 st (fun x y t => K ls (za_i (x &&& y) :: t) μ κ)
  | .ior => za_2 st (fun x y t => K ls (za_i (x ||| y) :: t) μ κ)
  | .ixor => za_2 st (fun x y t => K ls (za_i (x ^^^ y) :: t) μ κ)
  | .ishl => za_2 st (fun x y t => K ls (za_i (x <<< (y &&& 31)) :: t) μ κ)
  | .ishr => za_2 st (fun x y t => K ls (za_i (x >>> (y &&& 31)) :: t) μ κ)
  | .iushr => za_2 st (fun x y t => K ls (za_i (x.toUInt32 >>> (y.toUInt32 &&& Int32.toUInt32 31)).toInt32 :: t) μ κ)
  | .ladd => za_L2 st (fun x y t => K ls (za_l (x + y) :: t) μ κ)
  | .lsub => za_L2 st (fun x y t => K ls (za_l (x - y) :: t) μ κ)
  | .land => za_L2 st (fun x y t => K ls (za_l (x &&& y) :: t) μ κ)
  | .lor => za_L2 st (fun x y t => K ls (za_l (x ||| y) :: t) μ κ)
  | .lxor => za_L2 st (fun x y t => K ls (za_l (x ^^^ y) :: t) μ κ)
  | .lcmp => za_L2 st (fun x y t => K ls (za_i (lg_cmp x y) :: t) μ κ)
  | .lshl => za_LI st (fun x y t => K ls (za_l (x <<< (y.toInt64 &&& 63)) :: t) μ κ)
  | .lshr => za_LI st (fun x y t => K ls (za_l (x >>> (y.toInt64 &&& 63)) :: t) μ κ)
  | .lushr => za_LI st (fun x y t => K ls (za_l (x.toUInt64 >>> (y.toInt64.toUInt64 &&& Int64.toUInt64 63)).toInt64 :: t) μ κ)
  | .i2l => za_1 st (fun x t => K ls (za_l x.toInt64 :: t) μ κ)
  | .l2i => za_L1 st (fun x t => K ls (za_i x.toInt32 :: t) μ κ)
  | .dup => za_dup st (fun t => K ls t μ κ)
  | .dup2 => za_dup2 st (fun t => K ls t μ κ)
  | .dup_x1 => za_dupx1 st (fun t => K ls t μ κ)
  | .pop => za_drop1 st (fun t => K ls t μ κ)
  | .ifCond c _ => za_1 st (fun x t => za_br c x 0 (J x1 ls t μ κ) (K ls t μ κ))
  | .if_icmp c _ => za_2 st (fun x y t => za_br c x y (J x1 ls t μ κ) (K ls t μ κ))
  | .goto _ => J x1 ls st μ κ
  | .tableswitch _ lo _ offs => za_1 st (fun x t => za_sw x lo (offs.toList.map fun o => ((pc : Int) + o).toNat) (fun p => J p ls t μ κ) (J x1 ls t μ κ))
  | .getfield _ => za_get Λ μ x1 x2 st (fun v t => K ls (v :: t) μ κ)
  | .putfield _ => za_put Λ μ x1 x2 st (fun m t => K ls t m κ)
  | .iaload => za_ald Λ X μ 0 st (fun v t => K ls (v :: t) μ κ)
  | .baload => za_ald Λ X μ 1 st (fun v t => K ls (v :: t) μ κ)
  | .laload => za_ald Λ X μ 2 st (fun v t => K ls (v :: t) μ κ)
  | .aaload => za_ald Λ X μ 3 st (fun v t => K ls (v :: t) μ κ)
  | .iastore => za_ast Λ μ 0 st (fun m t => K ls t m κ)
  | .bastore => za_ast Λ μ 1 st (fun m t => K ls t m κ)
  | .lastore => za_ast Λ μ 2 st (fun m t => K ls t m κ)
  | .arraylength => za_len Λ X st (fun x t => K ls (za_i x :: t) μ κ)
  | .invokevirtual _ => za_cl x2 st (fun as t => CC x1 as μ κ (fun r m q => za_back r t (fun t1 => K ls t1 m q)) (fun x m q => HX x ls m q))
  | .invokespecial _ => za_cl x2 st (fun as t => CC x1 as μ κ (fun r m q => za_back r t (fun t1 => K ls t1 m q)) (fun x m q => HX x ls m q))
  | .invokestatic _ => (match Nat.beq x1 999 with
    | true => za_cp Λ μ st (fun m t => K ls t m κ)
    | false => za_cl x2 st (fun as t => CC x1 as μ κ (fun r m q => za_back r t (fun t1 => K ls t1 m q)) (fun x m q => HX x ls m q)))
  | .new _ => st = [] ∧ XX x1 μ (κ.1 + 1, κ.2 + 6)
  | .ireturn => za_1 st (fun x t => t = [] ∧ (ret = 1 ∨ ret = 2 ∧ (x = 0 ∨ x = 1)) ∧ RR (some (za_i x)) μ κ)
  | .lreturn => za_L1 st (fun x t => t = [] ∧ ret = 3 ∧ RR (some (za_l x)) μ κ)
  | .areturn => za_A1 st (fun v t => t = [] ∧ ret = 4 ∧ RR (some v) μ κ)
  | .return_ => st = [] ∧ ret = 0 ∧ RR none μ κ
  | _ => False
def za_wp (Λ : List za_S) (X : za_X) (ret : Nat) (RR : za_RR) (XX : za_XX) (CC : za_CC) (HX : Nat → Nat → za_C → za_M → Nat × Nat → Prop) (prog : List za_E) (cuts : List Nat) (ZZ : Nat → za_K) : Nat → List za_E → za_K
  | 0, _, _, _, _, _ => False
  | _ + 1, [], _, _, _, _ => False
  | n + 1, e :: r, ls, st, μ, κ => match za_mem e.1 cuts with
    | true => ZZ e.1 ls st μ κ
    | false => za_stp Λ X ret RR XX CC (HX e.1) (fun ls st μ κ => za_wp Λ X ret RR XX CC HX prog cuts ZZ n r ls st μ κ) (fun t ls st μ κ => za_wp Λ X ret RR XX CC HX prog cuts ZZ n (za_at t prog) ls st μ κ) e ls st μ κ
