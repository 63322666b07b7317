def am_u {α : Type} (f : Nat → Nat → α) (a k : Nat) (v : α) : Nat → Nat → α := fun a' => if a' = a then (fun k' => if k' = k then v else f a k') else f a'
/-- a whole row of a cell -/
def am_r {α : Type} (f : Nat → Nat → α) (a : Nat) (g : Nat → α) : Nat → Nat → α := fun a' => if a' = a then g else f a'
def am_s (S : Nat → am_Sh) (a : Nat) (x : am_Sh) : Nat → am_Sh := fun a' => if a' = a then x else S a'
/-- no long stands just below place i -/
def am_nl (ls : List Value) (i : Nat) : Bool := match i with
  | 0 => true
  | j + 1 => match ls[j]? with
    | some (.long _) => false
    | some (.double _) => false
    | _ => true
def am_cs (P : Nat → Int → Prop) : Nat → List Int → Prop
  | _, [] => True
  | j, o :: os => P j o ∧ am_cs P (j + 1) os
def am_cp (P : Int → Int → Prop) : List (Int × Int) → Prop
  | [] => True
  | o :: os => P o.1 o.2 ∧ am_cp P os
/-- the fields: kinds 0 int, 1 long, 2 reference, 3 boolean -/
def am_new (G : am_G) (x : am_Sh) : am_G := (am_r G.1 G.2.2 (fun _ => 0), am_s G.2.1 G.2.2 x, G.2.2 + 1)
section AMR
variable (C : am_C) (e : am_E) (Q : am_Q) (X : am_X)
def am_r1 : Prop :=
  (∀ pc ls st I L G k n i a b v (w : Int32), am_at e pc = some (.iconst i, 1, a, b, v) → Int32.ofInt i = w → X (pc + 1) ls (.int w :: st) I L G k n → X pc ls st I L G k n) ∧
  (∀ pc ls st I L G k n i a b v (w : Int32), am_at e pc = some (.bipush i, 2, a, b, v) → (Int8.ofInt i).toInt32 = w → X (pc + 2) ls (.int w :: st) I L G k n → X pc ls st I L G k n) ∧
  (∀ pc ls st I L G k n i a b v (w : Int32), am_at e pc = some (.sipush i, 3, a, b, v) → (Int16.ofInt i).toInt32 = w → X (pc + 3) ls (.int w :: st) I L G k n → X pc ls st I L G k n) ∧
  (∀ pc ls st I L G k n (i : Fin 2) a b v (w : Int64), am_at e pc = some (.lconst i, 1, a, b, v) → Int64.ofNat (i : Nat) = w → X (pc + 1) ls (.long w :: st) I L G k n → X pc ls st I L G k n) ∧
  (∀ pc ls st I L G k n i a v (w : Int32), am_at e pc = some (.ldc i, 2, a, 0, v) → Int32.ofInt v = w → X (pc + 2) ls (.int w :: st) I L G k n → X pc ls st I L G k n) ∧
  (∀ pc ls st I L G k n i a v (w : Int32), am_at e pc = some (.ldc_w i, 3, a, 0, v) → Int32.ofInt v = w → X (pc + 3) ls (.int w :: st) I L G k n → X pc ls st I L G k n) ∧
  (∀ pc ls st I L G k n i a v (w : Int64), am_at e pc = some (.ldc2_w i, 3, a, 2, v) → Int64.ofInt v = w → X (pc + 3) ls (.long w :: st) I L G k n → X pc ls st I L G k n) ∧
  (∀ pc ls st I L G k n i a v, am_at e pc = some (.ldc i, 2, a, 1, v) → X (pc + 2) ls (.ref a :: st) I L G k n → X pc ls st I L G k n) ∧
  (∀ pc ls st I L G k n a b v, am_at e pc = some (.aconst_null, 1, a, b, v) → X (pc + 1) ls (.ref 0 :: st) I L G k n → X pc ls st I L G k n)
def am_r2 : Prop :=
  (∀ pc ls st I L G k n (i : Fin 4) a b v x, am_at e pc = some (.iload_n i, 1, a, b, v) → ls[(i : Nat)]? = some (.int x) → X (pc + 1) ls (.int x :: st) I L G k n → X pc ls st I L G k n) ∧
  (∀ pc ls st I L G k n i a b v x, am_at e pc = some (.iload i, 2, a, b, v) → ls[i]? = some (.int x) → X (pc + 2) ls (.int x :: st) I L G k n → X pc ls st I L G k n) ∧
  (∀ pc ls st I L G k n (i : Fin 4) a b v x, am_at e pc = some (.lload_n i, 1, a, b, v) → ls[(i : Nat)]? = some (.long x) → X (pc + 1) ls (.long x :: st) I L G k n → X pc ls st I L G k n) ∧
  (∀ pc ls st I L G k n i a b v x, am_at e pc = some (.lload i, 2, a, b, v) → ls[i]? = some (.long x) → X (pc + 2) ls (.long x :: st) I L G k n → X pc ls st I L G k n) ∧
  (∀ pc ls st I L G k n (i : Fin 4) a b v x, am_at e pc = some (.aload_n i, 1, a, b, v) → ls[(i : Nat)]? = some (.ref x) → X (pc + 1) ls (.ref x :: st) I L G k n → X pc ls st I L G k n) ∧
  (∀ pc ls st I L G k n i a b v x, am_at e pc = some (.aload i, 2, a, b, v) → ls[i]? = some (.ref x) → X (pc + 2) ls (.ref x :: st) I L G k n → X pc ls st I L G k n) ∧
  (∀ pc ls st I L G k n (i : Fin 4) a b v x, am_at e pc = some (.istore_n i, 1, a, b, v) → Nat.blt i ls.length = true → am_nl ls i = true → X (pc + 1) (ls.set i (.int x)) st I L G k n → X pc ls (.int x :: st) I L G k n) ∧
  (∀ pc ls st I L G k n i a b v x, am_at e pc = some (.istore i, 2, a, b, v) → Nat.blt i ls.length = true → am_nl ls i = true → X (pc + 2) (ls.set i (.int x)) st I L G k n → X pc ls (.int x :: st) I L G k n) ∧
  (∀ pc ls st I L G k n (i : Fin 4) a b v x, am_at e pc = some (.astore_n i, 1, a, b, v) → Nat.blt i ls.length = true → am_nl ls i = true → X (pc + 1) (ls.set i (.ref x)) st I L G k n → X pc ls (.ref x :: st) I L G k n) ∧
  (∀ pc ls st I L G k n i a b v x, am_at e pc = some (.astore i, 2, a, b, v) → Nat.blt i ls.length = true → am_nl ls i = true → X (pc + 2) (ls.set i (.ref x)) st I L G k n → X pc ls (.ref x :: st) I L G k n) ∧
  (∀ pc ls st I L G k n (i : Fin 4) a b v x, am_at e pc = some (.lstore_n i, 1, a, b, v) → Nat.blt (i + 1) ls.length = true → am_nl ls i = true → X (pc + 1) ((ls.set i (.long x)).set (i + 1) .null) st I L G k n → X pc ls (.long x :: st) I L G k n) ∧
  (∀ pc ls st I L G k n i a b v x, am_at e pc = some (.lstore i, 2, a, b, v) → Nat.blt (i + 1) ls.length = true → am_nl ls i = true → X (pc + 2) ((ls.set i (.long x)).set (i + 1) .null) st I L G k n → X pc ls (.long x :: st) I L G k n) ∧
  (∀ pc ls st I L G k n i d a b v x (w : Int32), am_at e pc = some (.iinc i d, 3, a, b, v) → ls[i]? = some (.int x) → Int32.ofInt d = w → am_nl ls i = true → X (pc + 3) (ls.set i (.int (x + w))) st I L G k n → X pc ls st I L G k n)
def am_r3 : Prop :=
  (∀ pc ls st I L G k n a b v (x y : Int32), am_at e pc = some (.iadd, 1, a, b, v) → X (pc + 1) ls (.int (x + y) :: st) I L G k n → X pc ls (.int y :: .int x :: st) I L G k n) ∧
  (∀ pc ls st I L G k n a b v (x y : Int32), am_at e pc = some (.isub, 1, a, b, v) → X (pc + 1) ls (.int (x - y) :: st) I L G k n → X pc ls (.int y :: .int x :: st) I L G k n) ∧
  (∀ pc ls st I L G k n a b v (x y : Int32), am_at e pc = some (.imul, 1, a, b, v) → X (pc + 1) ls (.int (x * y) :: st) I L G k n → X pc ls (.int y :: .int x :: st) I L G k n) ∧
  (∀ pc ls st I L G k n a b v (x y : Int32), am_at e pc = some (.idiv, 1, a, b, v) → ¬ y = 0 → X (pc + 1) ls (.int (x / y) :: st) I L G k n → X pc ls (.int y :: .int x :: st) I L G k n) ∧
  (∀ pc ls st I L G k n a b v (x y : Int32), am_at e pc = some (.irem, 1, a, b, v) → ¬ y = 0 → X (pc + 1) ls (.int (x - x / y * y) :: st) I L G k n → X pc ls (.int y :: .int x :: st) I L G k n) ∧
  (∀ pc ls st I L G k n a b v (x y : Int32), am_at e pc = some (.iand, 1, a, b, v) → X (pc + 1) ls (.int (x &&& y) :: st) I L G k n → X pc ls (.int y :: .int x :: st) I L G k n) ∧
  (∀ pc ls st I L G k n a b v (x y : Int32), am_at e pc = some (.ior, 1, a, b, v) → X (pc + 1) ls (.int (x ||| y) :: st) I L G k n → X pc ls (.int y :: .int x :: st) I L G k n) ∧
  (∀ pc ls st I L G k n a b v (x y : Int32), am_at e pc = some (.ishl, 1, a, b, v) → X (pc + 1) ls (.int (x <<< (y &&& 31)) :: st) I L G k n → X pc ls (.int y :: .int x :: st) I L G k n) ∧
  (∀ pc ls st I L G k n a b v (x y : Int32), am_at e pc = some (.ishr, 1, a, b, v) → X (pc + 1) ls (.int (x >>> (y &&& 31)) :: st) I L G k n → X pc ls (.int y :: .int x :: st) I L G k n) ∧
  (∀ pc ls st I L G k n a b v (x y : Int32), am_at e pc = some (.iushr, 1, a, b, v) → X (pc + 1) ls (.int ((x.toUInt32 >>> (y.toUInt32 &&& Int32.toUInt32 31)).toInt32) :: st) I L G k n → X pc ls (.int y :: .int x :: st) I L G k n) ∧
  (∀ pc ls st I L G k n a b v (x : Int32), am_at e pc = some (.i2l, 1, a, b, v) → X (pc + 1) ls (.long x.toInt64 :: st) I L G k n → X pc ls (.int x :: st) I L G k n) ∧
  (∀ pc ls st I L G k n a b v (x : Int64), am_at e pc = some (.l2i, 1, a, b, v) → X (pc + 1) ls (.int x.toInt32 :: st) I L G k n → X pc ls (.long x :: st) I L G k n) ∧
  (∀ pc ls st I L G k n a b v (x : Int32), am_at e pc = some (.i2b, 1, a, b, v) → X (pc + 1) ls (.int x.toInt8.toInt32 :: st) I L G k n → X pc ls (.int x :: st) I L G k n)
def am_r4 : Prop :=
  (∀ pc ls st I L G k n a b v (x y : Int64), am_at e pc = some (.ladd, 1, a, b, v) → X (pc + 1) ls (.long (x + y) :: st) I L G k n → X pc ls (.long y :: .long x :: st) I L G k n) ∧
  (∀ pc ls st I L G k n a b v (x y : Int64), am_at e pc = some (.lsub, 1, a, b, v) → X (pc + 1) ls (.long (x - y) :: st) I L G k n → X pc ls (.long y :: .long x :: st) I L G k n) ∧
  (∀ pc ls st I L G k n a b v (x y : Int64), am_at e pc = some (.lmul, 1, a, b, v) → X (pc + 1) ls (.long (x * y) :: st) I L G k n → X pc ls (.long y :: .long x :: st) I L G k n) ∧
  (∀ pc ls st I L G k n a b v (x y : Int64), am_at e pc = some (.ldiv, 1, a, b, v) → ¬ y = 0 → X (pc + 1) ls (.long (x / y) :: st) I L G k n → X pc ls (.long y :: .long x :: st) I L G k n) ∧
  (∀ pc ls st I L G k n a b v (x y : Int64), am_at e pc = some (.lrem, 1, a, b, v) → ¬ y = 0 → X (pc + 1) ls (.long (x - x / y * y) :: st) I L G k n → X pc ls (.long y :: .long x :: st) I L G k n) ∧
  (∀ pc ls st I L G k n a b v (x y : Int64), am_at e pc = some (.land, 1, a, b, v) → X (pc + 1) ls (.long (x &&& y) :: st) I L G k n → X pc ls (.long y :: .long x :: st) I L G k n) ∧
  (∀ pc ls st I L G k n a b v (x y : Int64), am_at e pc = some (.lor, 1, a, b, v) → X (pc + 1) ls (.long (x ||| y) :: st) I L G k n → X pc ls (.long y :: .long x :: st) I L G k n) ∧
  (∀ pc ls st I L G k n a b v (x y : Int64), am_at e pc = some (.lxor, 1, a, b, v) → X (pc + 1) ls (.long (x ^^^ y) :: st) I L G k n → X pc ls (.long y :: .long x :: st) I L G k n) ∧
  (∀ pc ls st I L G k n a b v (x : Int64) (y : Int32), am_at e pc = some (.lshl, 1, a, b, v) → X (pc + 1) ls (.long (x <<< (y.toInt64 &&& 63)) :: st) I L G k n → X pc ls (.int y :: .long x :: st) I L G k n) ∧
  (∀ pc ls st I L G k n a b v (x : Int64) (y : Int32), am_at e pc = some (.lshr, 1, a, b, v) → X (pc + 1) ls (.long (x >>> (y.toInt64 &&& 63)) :: st) I L G k n → X pc ls (.int y :: .long x :: st) I L G k n) ∧
  (∀ pc ls st I L G k n a b v (x : Int64) (y : Int32), am_at e pc = some (.lushr, 1, a, b, v) → X (pc + 1) ls (.long ((x.toUInt64 >>> (y.toInt64.toUInt64 &&& Int64.toUInt64 63)).toInt64) :: st) I L G k n → X pc ls (.int y :: .long x :: st) I L G k n) ∧
  (∀ pc ls st I L G k n a b v (x y : Int64), am_at e pc = some (.lcmp, 1, a, b, v) → X (pc + 1) ls (.int (lg_cmp x y) :: st) I L G k n → X pc ls (.long y :: .long x :: st) I L G k n) ∧
  (∀ pc ls st I L G k n a b v (x : Value), am_at e pc = some (.dup, 1, a, b, v) → x.category = 1 → X (pc + 1) ls (x :: x :: st) I L G k n → X pc ls (x :: st) I L G k n) ∧
  (∀ pc ls st I L G k n a b v (x y : Value), am_at e pc = some (.dup2, 1, a, b, v) → x.category = 1 → y.category = 1 → X (pc + 1) ls (x :: y :: x :: y :: st) I L G k n → X pc ls (x :: y :: st) I L G k n) ∧
  (∀ pc ls st I L G k n a b v (x : Value), am_at e pc = some (.pop, 1, a, b, v) → x.category = 1 → X (pc + 1) ls st I L G k n → X pc ls (x :: st) I L G k n)
def am_r5 : Prop :=
  (∀ pc ls st I L G k n a b v (x : Int32) off (t : Nat), am_at e pc = some (.ifCond .eq off, 3, a, b, v) → (pc : Int) + off = (t : Int) → (x = 0 → X t ls st I L G k n) → (¬ x = 0 → X (pc + 3) ls st I L G k n) → X pc ls (.int x :: st) I L G k n) ∧
  (∀ pc ls st I L G k n a b v (x : Int32) off (t : Nat), am_at e pc = some (.ifCond .ne off, 3, a, b, v) → (pc : Int) + off = (t : Int) → (¬ x = 0 → X t ls st I L G k n) → (x = 0 → X (pc + 3) ls st I L G k n) → X pc ls (.int x :: st) I L G k n) ∧
  (∀ pc ls st I L G k n a b v (x : Int32) off (t : Nat), am_at e pc = some (.ifCond .lt off, 3, a, b, v) → (pc : Int) + off = (t : Int) → (x < 0 → X t ls st I L G k n) → (¬ x < 0 → X (pc + 3) ls st I L G k n) → X pc ls (.int x :: st) I L G k n) ∧
  (∀ pc ls st I L G k n a b v (x : Int32) off (t : Nat), am_at e pc = some (.ifCond .ge off, 3, a, b, v) → (pc : Int) + off = (t : Int) → (¬ x < 0 → X t ls st I L G k n) → (x < 0 → X (pc + 3) ls st I L G k n) → X pc ls (.int x :: st) I L G k n) ∧
  (∀ pc ls st I L G k n a b v (x : Int32) off (t : Nat), am_at e pc = some (.ifCond .gt off, 3, a, b, v) → (pc : Int) + off = (t : Int) → (0 < x → X t ls st I L G k n) → (¬ 0 < x → X (pc + 3) ls st I L G k n) → X pc ls (.int x :: st) I L G k n) ∧
  (∀ pc ls st I L G k n a b v (x : Int32) off (t : Nat), am_at e pc = some (.ifCond .le off, 3, a, b, v) → (pc : Int) + off = (t : Int) → (¬ 0 < x → X t ls st I L G k n) → (0 < x → X (pc + 3) ls st I L G k n) → X pc ls (.int x :: st) I L G k n) ∧
  (∀ pc ls st I L G k n a b v (x y : Int32) off (t : Nat), am_at e pc = some (.if_icmp .eq off, 3, a, b, v) → (pc : Int) + off = (t : Int) → (x = y → X t ls st I L G k n) → (¬ x = y → X (pc + 3) ls st I L G k n) → X pc ls (.int y :: .int x :: st) I L G k n) ∧
  (∀ pc ls st I L G k n a b v (x y : Int32) off (t : Nat), am_at e pc = some (.if_icmp .ne off, 3, a, b, v) → (pc : Int) + off = (t : Int) → (¬ x = y → X t ls st I L G k n) → (x = y → X (pc + 3) ls st I L G k n) → X pc ls (.int y :: .int x :: st) I L G k n) ∧
  (∀ pc ls st I L G k n a b v (x y : Int32) off (t : Nat), am_at e pc = some (.if_icmp .lt off, 3, a, b, v) → (pc : Int) + off = (t : Int) → (x < y → X t ls st I L G k n) → (¬ x < y → X (pc + 3) ls st I L G k n) → X pc ls (.int y :: .int x :: st) I L G k n) ∧
  (∀ pc ls st I L G k n a b v (x y : Int32) off (t : Nat), am_at e pc = some (.if_icmp .ge off, 3, a, b, v) → (pc : Int) + off = (t : Int) → (¬ x < y → X t ls st I L G k n) → (x < y → X (pc + 3) ls st I L G k n) → X pc ls (.int y :: .int x :: st) I L G k n) ∧
  (∀ pc ls st I L G k n a b v (x y : Int32) off (t : Nat), am_at e pc = some (.if_icmp .gt off, 3, a, b, v) → (pc : Int) + off = (t : Int) → (y < x → X t ls st I L G k n) → (¬ y < x → X (pc + 3) ls st I L G k n) → X pc ls (.int y :: .int x :: st) I L G k n) ∧
  (∀ pc ls st I L G k n a b v (x y : Int32) off (t : Nat), am_at e pc = some (.if_icmp .le off, 3, a, b, v) → (pc : Int) + off = (t : Int) → (¬ y < x → X t ls st I L G k n) → (y < x → X (pc + 3) ls st I L G k n) → X pc ls (.int y :: .int x :: st) I L G k n) ∧
  (∀ pc ls st I L G k n a b v off (t : Nat), am_at e pc = some (.goto off, 3, a, b, v) → (pc : Int) + off = (t : Int) → X t ls st I L G k n → X pc ls st I L G k n) ∧
  (∀ pc ls st I L G k n a b v (x : Nat) off (t : Nat), am_at e pc = some (.ifnull off, 3, a, b, v) → (pc : Int) + off = (t : Int) → (x = 0 → X t ls st I L G k n) → (¬ x = 0 → X (pc + 3) ls st I L G k n) → X pc ls (.ref x :: st) I L G k n) ∧
  (∀ pc ls st I L G k n a b v (x : Nat) off (t : Nat), am_at e pc = some (.ifnonnull off, 3, a, b, v) → (pc : Int) + off = (t : Int) → (¬ x = 0 → X t ls st I L G k n) → (x = 0 → X (pc + 3) ls st I L G k n) → X pc ls (.ref x :: st) I L G k n) ∧
  (∀ pc ls st I L G k n a b v (x : Int32) d lo hi (offs : Array Int) len, am_at e pc = some (.tableswitch d lo hi offs, len, a, b, v) → (hi = lo + offs.size - 1) → am_cs (fun j o => x.toInt = lo + j → X ((pc : Int) + o).toNat ls st I L G k n) 0 offs.toList → (x.toInt < lo ∨ hi < x.toInt → X ((pc : Int) + d).toNat ls st I L G k n) → am_cs (fun _ o => 0 ≤ (pc : Int) + o) 0 (d :: offs.toList) → X pc ls (.int x :: st) I L G k n) ∧
  (∀ pc ls st I L G k n a b v (x : Int32) d (ps : Array (Int × Int)) len, am_at e pc = some (.lookupswitch d ps, len, a, b, v) → (ps.toList.zip (ps.toList.drop 1)).all (fun (a, next) => a.1 < next.1) = true → am_cp (fun j o => x.toInt = j → X ((pc : Int) + o).toNat ls st I L G k n) ps.toList → ((∀ q ∈ ps.toList, ¬ x.toInt = q.1) → X ((pc : Int) + d).toNat ls st I L G k n) → am_cp (fun _ o => 0 ≤ (pc : Int) + o) ((0, d) :: ps.toList) → X pc ls (.int x :: st) I L G k n)
def am_r6 : Prop :=
  (∀ pc ls st I L (G : am_G) k n i c f (x : Nat), am_at e pc = some (.getfield i, 3, c, f, 0) → G.2.1 x = .inl c → X (pc + 3) ls (.int (I x f) :: st) I L G k n → X pc ls (.ref x :: st) I L G k n) ∧
  (∀ pc ls st I L (G : am_G) k n i c f (x : Nat), am_at e pc = some (.getfield i, 3, c, f, 1) → G.2.1 x = .inl c → X (pc + 3) ls (.long (L x f) :: st) I L G k n → X pc ls (.ref x :: st) I L G k n) ∧
  (∀ pc ls st I L (G : am_G) k n i c f (x : Nat), am_at e pc = some (.getfield i, 3, c, f, 2) → G.2.1 x = .inl c → X (pc + 3) ls (.ref (G.1 x f) :: st) I L G k n → X pc ls (.ref x :: st) I L G k n) ∧
  (∀ pc ls st I L (G : am_G) k n i c f (x : Nat), am_at e pc = some (.getfield i, 3, c, f, 3) → G.2.1 x = .inl c → X (pc + 3) ls (.int (I x f) :: st) I L G k n → X pc ls (.ref x :: st) I L G k n) ∧
  (∀ pc ls st I L (G : am_G) k n i c f (x : Nat) (y : Int32), am_at e pc = some (.putfield i, 3, c, f, 0) → G.2.1 x = .inl c → X (pc + 3) ls st (am_u I x f y) L G k n → X pc ls (.int y :: .ref x :: st) I L G k n) ∧
  (∀ pc ls st I L (G : am_G) k n i c f (x : Nat) (y : Int64), am_at e pc = some (.putfield i, 3, c, f, 1) → G.2.1 x = .inl c → X (pc + 3) ls st I (am_u L x f y) G k n → X pc ls (.long y :: .ref x :: st) I L G k n) ∧
  (∀ pc ls st I L (G : am_G) k n i c f (x : Nat) (y : Nat), am_at e pc = some (.putfield i, 3, c, f, 2) → G.2.1 x = .inl c → X (pc + 3) ls st I L (am_u G.1 x f y, G.2) k n → X pc ls (.ref y :: .ref x :: st) I L G k n) ∧
  (∀ pc ls st I L (G : am_G) k n i c f (x : Nat) (y : Int32), am_at e pc = some (.putfield i, 3, c, f, 3) → G.2.1 x = .inl c → (y = 0 ∨ y = 1) → X (pc + 3) ls st (am_u I x f y) L G k n → X pc ls (.int y :: .ref x :: st) I L G k n) ∧
  (∀ pc ls st I L (G : am_G) k n a b v (x N : Nat) (i : Int32), am_at e pc = some (.iaload, 1, a, b, v) → G.2.1 x = .inr (0, N) → vp_in i N → X (pc + 1) ls (.int (I x i.toNatClampNeg) :: st) I L G k n → X pc ls (.int i :: .ref x :: st) I L G k n) ∧
  (∀ pc ls st I L (G : am_G) k n a b v (x N : Nat) (i : Int32), am_at e pc = some (.iaload, 1, a, b, v) → G.2.1 x = .inr (8, N) → vp_in i N → X (pc + 1) ls (.int (I x i.toNatClampNeg) :: st) I L G k n → X pc ls (.int i :: .ref x :: st) I L G k n) ∧
  (∀ pc ls st I L (G : am_G) k n a b v (x N : Nat) (i : Int32), am_at e pc = some (.baload, 1, a, b, v) → G.2.1 x = .inr (1, N) → vp_in i N → X (pc + 1) ls (.int (I x i.toNatClampNeg) :: st) I L G k n → X pc ls (.int i :: .ref x :: st) I L G k n) ∧
  (∀ pc ls st I L (G : am_G) k n a b v (x N : Nat) (i : Int32), am_at e pc = some (.baload, 1, a, b, v) → G.2.1 x = .inr (2, N) → vp_in i N → X (pc + 1) ls (.int (I x i.toNatClampNeg) :: st) I L G k n → X pc ls (.int i :: .ref x :: st) I L G k n) ∧
  (∀ pc ls st I L (G : am_G) k n a b v (x N : Nat) (i : Int32), am_at e pc = some (.laload, 1, a, b, v) → G.2.1 x = .inr (3, N) → vp_in i N → X (pc + 1) ls (.long (L x i.toNatClampNeg) :: st) I L G k n → X pc ls (.int i :: .ref x :: st) I L G k n) ∧
  (∀ pc ls st I L (G : am_G) k n a b v (x N t : Nat) (i : Int32), am_at e pc = some (.aaload, 1, a, b, v) → G.2.1 x = .inr (t + 4, N) → Nat.blt t 4 = true → vp_in i N → X (pc + 1) ls (.ref (G.1 x i.toNatClampNeg) :: st) I L G k n → X pc ls (.int i :: .ref x :: st) I L G k n) ∧
  (∀ pc ls st I L (G : am_G) k n a b v (x N : Nat) (i y : Int32), am_at e pc = some (.iastore, 1, a, b, v) → G.2.1 x = .inr (0, N) → vp_in i N → X (pc + 1) ls st (am_u I x i.toNatClampNeg y) L G k n → X pc ls (.int y :: .int i :: .ref x :: st) I L G k n) ∧
  (∀ pc ls st I L (G : am_G) k n a b v (x N : Nat) (i y : Int32), am_at e pc = some (.bastore, 1, a, b, v) → G.2.1 x = .inr (1, N) → vp_in i N → X (pc + 1) ls st (am_u I x i.toNatClampNeg y.toInt8.toInt32) L G k n → X pc ls (.int y :: .int i :: .ref x :: st) I L G k n) ∧
  (∀ pc ls st I L (G : am_G) k n a b v (x N : Nat) (i y : Int32), am_at e pc = some (.bastore, 1, a, b, v) → G.2.1 x = .inr (2, N) → vp_in i N → (y = 0 ∨ y = 1) → X (pc + 1) ls st (am_u I x i.toNatClampNeg y) L G k n → X pc ls (.int y :: .int i :: .ref x :: st) I L G k n) ∧
  (∀ pc ls st I L (G : am_G) k n a b v (x N : Nat) (i : Int32) (y : Int64), am_at e pc = some (.lastore, 1, a, b, v) → G.2.1 x = .inr (3, N) → vp_in i N → X (pc + 1) ls st I (am_u L x i.toNatClampNeg y) G k n → X pc ls (.long y :: .int i :: .ref x :: st) I L G k n) ∧
  (∀ pc ls st I L (G : am_G) k n b v (x N t c : Nat) (i : Int32) (y : Nat), am_at e pc = some (.aastore, 1, c, b, v) → G.2.1 x = .inr (t, N) → (t = 4 ∧ c = 5 ∨ t = 5 ∧ c = 6 ∨ t = 6 ∧ c = 8) → G.2.1 y = .inl c → vp_in i N → X (pc + 1) ls st I L (am_u G.1 x i.toNatClampNeg y, G.2) k n → X pc ls (.ref y :: .int i :: .ref x :: st) I L G k n) ∧
  (∀ pc ls st I L (G : am_G) k n a b v (x N t : Nat) (w : Int32), am_at e pc = some (.arraylength, 1, a, b, v) → G.2.1 x = .inr (t, N) → Nat.blt t 9 = true → Int32.ofNat N = w → X (pc + 1) ls (.int w :: st) I L G k n → X pc ls (.ref x :: st) I L G k n)
def am_r7 : Prop :=
  (∀ pc ls st I L (G : am_G) k n i c f v, am_at e pc = some (.new i, 3, c, f, v) → Nat.ble (k + 1) (am_mc e) = true → Nat.ble (n + f) (am_ms e) = true → X (pc + 3) ls (.ref G.2.2 :: st) (am_r I G.2.2 (fun _ => 0)) (am_r L G.2.2 (fun _ => 0)) (am_new G (.inl c)) (k + 1) (n + f) → X pc ls st I L G k n) ∧
  (∀ pc ls st I L (G : am_G) k n ty a b v (t N : Nat) (x : Int32), am_at e pc = some (.newarray ty, 2, a, b, v) → (ty = .int ∧ t = 0 ∨ ty = .byte ∧ t = 1 ∨ ty = .boolean ∧ t = 2 ∨ ty = .long ∧ t = 3) → ¬ x < 0 → x.toNatClampNeg = N → N ≤ 60000 → k + 1 ≤ am_mc e → n + N ≤ am_ms e → X (pc + 2) ls (.ref G.2.2 :: st) (am_r I G.2.2 (fun _ => 0)) (am_r L G.2.2 (fun _ => 0)) (am_new G (.inr (t, N))) (k + 1) (n + N) → X pc ls (.int x :: st) I L G k n) ∧
  (∀ pc ls st I L (G : am_G) k n i c b v (t N : Nat) (x : Int32), am_at e pc = some (.anewarray i, 3, c, b, v) → (t = 4 ∧ c = 5 ∨ t = 5 ∧ c = 6 ∨ t = 6 ∧ c = 8) → ¬ x < 0 → x.toNatClampNeg = N → N ≤ 60000 → k + 1 ≤ am_mc e → n + N ≤ am_ms e → X (pc + 3) ls (.ref G.2.2 :: st) (am_r I G.2.2 (fun _ => 0)) (am_r L G.2.2 (fun _ => 0)) (am_new G (.inr (t, N))) (k + 1) (n + N) → X pc ls (.int x :: st) I L G k n) ∧
  (∀ pc ls st I L (G : am_G) k n i a b v (N : Nat) (x : Int32), am_at e pc = some (.multianewarray i 2, 4, a, b, v) → ¬ x < 0 → x.toNatClampNeg = N → N ≤ 60000 → k + 1 + 2 ≤ am_mc e → n + 2 + 2 * N ≤ am_ms e →
    X (pc + 4) ls (.ref G.2.2 :: st) (am_r (am_r (am_r I G.2.2 (fun _ => 0)) (G.2.2 + 1) (fun _ => 0)) (G.2.2 + 2) (fun _ => 0)) (am_r (am_r (am_r L G.2.2 (fun _ => 0)) (G.2.2 + 1) (fun _ => 0)) (G.2.2 + 2) (fun _ => 0))
      (am_r (am_new (am_new (am_new G (.inr (7, 2))) (.inr (0, N))) (.inr (0, N))).1 G.2.2 (fun j => if j < 2 then G.2.2 + 1 + j else 0), (am_new (am_new (am_new G (.inr (7, 2))) (.inr (0, N))) (.inr (0, N))).2) (k + 1 + 2) (n + 2 + 2 * N) → X pc ls (.int x :: .int 2 :: st) I L G k n)
end AMR
/-- the texts of the String constants, by the numbers 2 to 11 of their cells -/
def am_strs : Nat → List Int32 := fun x => match x with
  | 2 => [112, 108, 97, 99, 101, 115]
  | 3 => [114, 111, 97, 100]
  | 4 => [99, 97, 114, 116, 101, 114]
  | 5 => [108, 111, 97, 100]
  | 6 => [98, 97, 114]
  | 7 => [119, 105, 112, 101]
  | 8 => [110, 111, 116]
  | 9 => [114, 111, 97, 100, 32, 100, 97, 121, 115, 32, 108, 97, 115, 116, 32, 107, 105, 110, 100, 32, 102, 114, 111, 109, 32, 116, 111, 32, 114, 117, 110, 115, 32, 97, 108, 108, 32, 100, 97, 121, 32]
  | 10 => [97, 110, 100]
  | 11 => [111, 114]
  | _ => []
section AMR
variable (P : List am_E) (C : am_C) (e : am_E) (Q : am_Q) (X : am_X)
def am_r8 : Prop :=
  (∀ pc ls st I L (G : am_G) k n idx i na (x : Nat) (as rest : List Value) (ec : am_E) (Q' : am_Q), am_at e pc = some (.invokevirtual idx, 3, i, na, 0) → P[i]? = some ec → as.length = na → st = as.reverse ++ .ref x :: rest → G.2.1 x = .inl (am_own ec) → (rest.map fun v => v.category).sum ≤ 8 → k + am_mc ec ≤ am_mc e → n + am_ms ec ≤ am_ms e →
    C i (.ref x :: as) I L G Q' → (∀ r I' L' G', Q' r I' L' G' → X (pc + 3) ls (r.toList ++ rest) I' L' G' (k + am_mc ec) (n + am_ms ec)) → X pc ls st I L G k n) ∧
  (∀ pc ls st I L (G : am_G) k n idx i na (x : Nat) (as rest : List Value) (ec : am_E) (Q' : am_Q) kd, am_at e pc = some (.invokespecial idx, 3, i, na, kd) → (kd = 1 ∨ kd = 4) → P[i]? = some ec → as.length = na → st = as.reverse ++ .ref x :: rest → (rest.map fun v => v.category).sum ≤ 8 → G.2.1 x = .inl (am_own ec) → k + am_mc ec ≤ am_mc e → n + am_ms ec ≤ am_ms e →
    C i (.ref x :: as) I L G Q' → (∀ r I' L' G', Q' r I' L' G' → X (pc + 3) ls (r.toList ++ rest) I' L' G' (k + am_mc ec) (n + am_ms ec)) → X pc ls st I L G k n) ∧
  (∀ pc ls st I L (G : am_G) k n idx i na (as rest : List Value) (ec : am_E) (Q' : am_Q), am_at e pc = some (.invokestatic idx, 3, i, na, 2) → P[i]? = some ec → as.length = na → st = as.reverse ++ rest → (rest.map fun v => v.category).sum ≤ 8 → k + am_mc ec ≤ am_mc e → n + am_ms ec ≤ am_ms e →
    C i as I L G Q' → (∀ r I' L' G', Q' r I' L' G' → X (pc + 3) ls (r.toList ++ rest) I' L' G' (k + am_mc ec) (n + am_ms ec)) → X pc ls st I L G k n) ∧
  (∀ pc ls st I L (G : am_G) k n idx a b (x c : Nat), am_at e pc = some (.invokespecial idx, 3, a, b, 5) → G.2.1 x = .inl c → (st.map fun v => v.category).sum ≤ 8 → X (pc + 3) ls st I L G k n → X pc ls (.ref x :: st) I L G k n) ∧
  (∀ pc ls st I L (G : am_G) k n idx a b (x y N M : Nat) (sp dp m : Int32), am_at e pc = some (.invokestatic idx, 3, a, b, 6) → G.2.1 x = .inr (0, N) → G.2.1 y = .inr (0, M) → ¬ sp < 0 → ¬ dp < 0 → ¬ m < 0 → sp.toNatClampNeg + m.toNatClampNeg ≤ N → dp.toNatClampNeg + m.toNatClampNeg ≤ M → (st.map fun v => v.category).sum ≤ 8 →
    X (pc + 3) ls st (am_r I y (va_cpy (I x) (I y) sp.toNatClampNeg dp.toNatClampNeg m.toNatClampNeg)) L G k n → X pc ls (.int m :: .int dp :: .ref y :: .int sp :: .ref x :: st) I L G k n) ∧
  (∀ pc ls st I L (G : am_G) k n idx a b (x : Nat), am_at e pc = some (.invokevirtual idx, 3, a, b, 7) → 2 ≤ x ∧ x < 12 → k ≤ am_mc e → n ≤ am_ms e → (st.map fun v => v.category).sum ≤ 8 → X (pc + 3) ls (.int (nI (am_strs x).length) :: st) I L G k n → X pc ls (.ref x :: st) I L G k n) ∧
  (∀ pc ls st I L (G : am_G) k n idx a b (x : Nat) (i : Int32), am_at e pc = some (.invokevirtual idx, 3, a, b, 8) → 2 ≤ x ∧ x < 12 → k ≤ am_mc e → n ≤ am_ms e → vp_in i (am_strs x).length → (st.map fun v => v.category).sum ≤ 8 → X (pc + 3) ls (.int ((am_strs x).getD i.toNatClampNeg 0) :: st) I L G k n → X pc ls (.int i :: .ref x :: st) I L G k n)
def am_r9 : Prop :=
  (∀ pc ls I L G k n a b v (x : Int32), am_at e pc = some (.ireturn, 1, a, b, v) → am_ret e = some .int → k ≤ am_mc e → n ≤ am_ms e → Q (some (.int x)) I L G → X pc ls [.int x] I L G k n) ∧
  (∀ pc ls I L G k n a b v (x : Int32), am_at e pc = some (.ireturn, 1, a, b, v) → am_ret e = some .boolean → (x = 0 ∨ x = 1) → k ≤ am_mc e → n ≤ am_ms e → Q (some (.int x)) I L G → X pc ls [.int x] I L G k n) ∧
  (∀ pc ls I L G k n a b v (x : Int64), am_at e pc = some (.lreturn, 1, a, b, v) → am_ret e = some .long → k ≤ am_mc e → n ≤ am_ms e → Q (some (.long x)) I L G → X pc ls [.long x] I L G k n) ∧
  (∀ pc ls I L G k n a b v (x : Nat) rt, am_at e pc = some (.areturn, 1, a, b, v) → am_ret e = some rt → ((∃ n, rt = .object n) ∨ ∃ t, rt = .array t) → k ≤ am_mc e → n ≤ am_ms e → Q (some (.ref x)) I L G → X pc ls [.ref x] I L G k n) ∧
  (∀ pc ls I L G k n a b v, am_at e pc = some (.return_, 1, a, b, v) → am_ret e = none → k ≤ am_mc e → n ≤ am_ms e → Q none I L G → X pc ls [] I L G k n)
end AMR
/-- THE JUDGEMENT: from here the method comes to its end, and there Q holds -/
def am_W (P : List am_E) (C : am_C) (e : am_E) (Q : am_Q) (pc : Nat) (ls st : List Value) (I : am_I) (L : am_L) (G : am_G) (k n : Nat) : Prop :=
  ∀ X : am_X, am_r1 e X → am_r2 e X → am_r3 e X → am_r4 e X → am_r5 e X → am_r6 e X → am_r7 e X → am_r8 P C e X → am_r9 e Q X → X pc ls st I L G k n
def am_pad (n : Nat) : List Value → List Value
  | [] => List.replicate n .null
  | v :: vs => match v with
    | .long _ => v :: .null :: am_pad (n - 2) vs
    | .double _ => v :: .null :: am_pad (n - 2) vs
    | _ => v :: am_pad (n - 1) vs
/-- the methods of P, called at most d deep -/
def am_call (P : List am_E) : Nat → am_C
  | 0 => fun _ _ _ _ _ _ => False
  | d + 1 => fun i as I L G Q => ∃ ec, P[i]? = some ec ∧ am_W P (am_call P d) ec Q 0 (am_pad (am_maxL ec) as) [] I L G 0 0
section AMM
variable {P : List am_E} {C : am_C} {e : am_E} {Q Q' : am_Q}
theorem am_W.mono (hq : ∀ r I L G, Q r I L G → Q' r I L G) {pc : Nat} {ls st : List Value} {I : am_I} {L : am_L} {G : am_G} {k n : Nat} (h : am_W P C e Q pc ls st I L G k n) : am_W P C e Q' pc ls st I L G k n := by
  intro X R1 R2 R3 R4 R5 R6 R7 R8 R9
  refine h X R1 R2 R3 R4 R5 R6 R7 R8 ⟨?_, ?_, ?_, ?_, ?_⟩
  · intro pc ls I L G k n a b v x h1 h2 h3 h4 h5
    exact R9.1 pc ls I L G k n a b v x h1 h2 h3 h4 (hq _ _ _ _ h5)
  · intro pc ls I L G k n a b v x h1 h2 h3 h4 h5 h6
    exact R9.2.1 pc ls I L G k n a b v x h1 h2 h3 h4 h5 (hq _ _ _ _ h6)
  · intro pc ls I L G k n a b v x h1 h2 h3 h4 h5
    exact R9.2.2.1 pc ls I L G k n a b v x h1 h2 h3 h4 (hq _ _ _ _ h5)
  · intro pc ls I L G k n a b v x rt h1 h2 h3 h4 h5 h6
    exact R9.2.2.2.1 pc ls I L G k n a b v x rt h1 h2 h3 h4 h5 (hq _ _ _ _ h6)
  · intro pc ls I L G k n a b v h1 h2 h3 h4 h5
    exact R9.2.2.2.2 pc ls I L G k n a b v h1 h2 h3 h4 (hq _ _ _ _ h5)
end AMM
theorem am_call.mono {P : List am_E} {d i : Nat} {as : List Value} {I : am_I} {L : am_L} {G : am_G} {Q Q' : am_Q} (hq : ∀ r I L G, Q r I L G → Q' r I L G) (h : am_call P d i as I L G Q) : am_call P d i as I L G Q' := by
  cases d with
  | zero => exact h
  | succ d =>
    obtain ⟨ec, h1, h2⟩ := h
    exact ⟨ec, h1, h2.mono hq⟩
theorem am_cs.mono {P P' : Nat → Int → Prop} (h : ∀ j o, P j o → P' j o) : ∀ (l : List Int) (j : Nat), am_cs P j l → am_cs P' j l
  | [], _, _ => trivial
  | _ :: l, j, hx => ⟨h _ _ hx.1, am_cs.mono h l (j + 1) hx.2⟩
theorem am_cp.mono {P P' : Int → Int → Prop} (h : ∀ j o, P j o → P' j o) : ∀ (l : List (Int × Int)), am_cp P l → am_cp P' l
  | [], _ => trivial
  | _ :: l, hx => ⟨h _ _ hx.1, am_cp.mono h l hx.2⟩
