/-- the texts of the String constants, by the numbers 2 to 11 of their cells -/
def am_strs : Nat → List Int32 := fun x => match x with
  | 2 => [112, 108, 97, 99, 101, 115]
  | 3 => [114, 111, 97, 100]
  | 4 => [99, 97, 114, 116, 101, 114]
  | 5 => [108, 111, 97, 100]
  | 6 => [98, 97, 114]
  | 7 => [119, 105, 112, 101]
  | 8 => [110, 111, 116]
  | 9 => [114, 111, 97, 100, 32, 100, 97, 121, 115, 32, 108, 97, 115, 116, 32, 107, 105, 110, 100, 32, 102, 114, 111, 109, 32, 116, 111, 32, 114, 117, 110, 115, 32, 97, 108, 108, 32, 100, 97, 121, 32]
  | 10 => [97, 110, 100]
  | 11 => [111, 114]
  | _ => []
section AMR
variable (P : List am_E) (C : am_C) (e : am_E) (Q : am_Q) (X : am_X)
def am_r8 : Prop :=
  (∀ pc ls st I L (G : am_G) k n idx i na (x : Nat) (as rest : List Value) (ec : am_E) (Q' : am_Q), am_at e pc = some (.invokevirtual idx, 3, i, na, 0) → P[i]? = some ec → as.length = na → st = as.reverse ++ .ref x :: rest → G.2.1 x = .inl (am_own ec) → (rest.map fun v => v.category).sum ≤ 8 → k + am_mc ec ≤ am_mc e → n + am_ms ec ≤ am_ms e →
    C i (.ref x :: as) I L G Q' → (∀ r I' L' G', Q' r I' L' G' → X (pc + 3) ls (r.toList ++ rest) I' L' G' (k + am_mc ec) (n + am_ms ec)) → X pc ls st I L G k n) ∧
  (∀ pc ls st I L (G : am_G) k n idx i na (x : Nat) (as rest : List Value) (ec : am_E) (Q' : am_Q) kd, am_at e pc = some (.invokespecial idx, 3, i, na, kd) → (kd = 1 ∨ kd = 4) → P[i]? = some ec → as.length = na → st = as.reverse ++ .ref x :: rest → (rest.map fun v => v.category).sum ≤ 8 → G.2.1 x = .inl (am_own ec) → k + am_mc ec ≤ am_mc e → n + am_ms ec ≤ am_ms e →
    C i (.ref x :: as) I L G Q' → (∀ r I' L' G', Q' r I' L' G' → X (pc + 3) ls (r.toList ++ rest) I' L' G' (k + am_mc ec) (n + am_ms ec)) → X pc ls st I L G k n) ∧
  (∀ pc ls st I L (G : am_G) k n idx i na (as rest : List Value) (ec : am_E) (Q' : am_Q), am_at e pc = some (.invokestatic idx, 3, i, na, 2) → P[i]? = some ec → as.length = na → st = as.reverse ++ rest → (rest.map fun v => v.category).sum ≤ 8 → k + am_mc ec ≤ am_mc e → n + am_ms ec ≤ am_ms e →
    C i as I L G Q' → (∀ r I' L' G', Q' r I' L' G' → X (pc + 3) ls (r.toList ++ rest) I' L' G' (k + am_mc ec) (n + am_ms ec)) → X pc ls st I L G k n) ∧
  (∀ pc ls st I L (G : am_G) k n idx a b (x c : Nat), am_at e pc = some (.invokespecial idx, 3, a, b, 5) → G.2.1 x = .inl c → (st.map fun v => v.category).sum ≤ 8 → X (pc + 3) ls st I L G k n → X pc ls (.ref x :: st) I L G k n) ∧
  (∀ pc ls st I L (G : am_G) k n idx a b (x y N M : Nat) (sp dp m : Int32), am_at e pc = some (.invokestatic idx, 3, a, b, 6) → G.2.1 x = .inr (0, N) → G.2.1 y = .inr (0, M) → ¬ sp < 0 → ¬ dp < 0 → ¬ m < 0 → sp.toNatClampNeg + m.toNatClampNeg ≤ N → dp.toNatClampNeg + m.toNatClampNeg ≤ M → (st.map fun v => v.category).sum ≤ 8 →
    X (pc + 3) ls st (am_r I y (va_cpy (I x) (I y) sp.toNatClampNeg dp.toNatClampNeg m.toNatClampNeg)) L G k n → X pc ls (.int m :: .int dp :: .ref y :: .int sp :: .ref x :: st) I L G k n) ∧
  (∀ pc ls st I L (G : am_G) k n idx a b (x : Nat), am_at e pc = some (.invokevirtual idx, 3, a, b, 7) → 2 ≤ x ∧ x < 12 → (st.map fun v => v.category).sum ≤ 8 → X (pc + 3) ls (.int (nI (am_strs x).length) :: st) I L G k n → X pc ls (.ref x :: st) I L G k n) ∧
  (∀ pc ls st I L (G : am_G) k n idx a b (x : Nat) (i : Int32), am_at e pc = some (.invokevirtual idx, 3, a, b, 8) → 2 ≤ x ∧ x < 12 → vp_in i (am_strs x).length → (st.map fun v => v.category).sum ≤ 8 → X (pc + 3) ls (.int ((am_strs x).getD i.toNatClampNeg 0) :: st) I L G k n → X pc ls (.int i :: .ref x :: st) I L G k n)
def am_r9 : Prop :=
  (∀ pc ls I L G k n a b v (x : Int32), am_at e pc = some (.ireturn, 1, a, b, v) → am_ret e = some .int → k ≤ am_mc e → n ≤ am_ms e → Q (some (.int x)) I L G → X pc ls [.int x] I L G k n) ∧
  (∀ pc ls I L G k n a b v (x : Int32), am_at e pc = some (.ireturn, 1, a, b, v) → am_ret e = some .boolean → (x = 0 ∨ x = 1) → k ≤ am_mc e → n ≤ am_ms e → Q (some (.int x)) I L G → X pc ls [.int x] I L G k n) ∧
  (∀ pc ls I L G k n a b v (x : Int64), am_at e pc = some (.lreturn, 1, a, b, v) → am_ret e = some .long → k ≤ am_mc e → n ≤ am_ms e → Q (some (.long x)) I L G → X pc ls [.long x] I L G k n) ∧
  (∀ pc ls I L G k n a b v (x : Nat) rt, am_at e pc = some (.areturn, 1, a, b, v) → am_ret e = some rt → ((∃ n, rt = .object n) ∨ ∃ t, rt = .array t) → k ≤ am_mc e → n ≤ am_ms e → Q (some (.ref x)) I L G → X pc ls [.ref x] I L G k n) ∧
  (∀ pc ls I L G k n a b v, am_at e pc = some (.return_, 1, a, b, v) → am_ret e = none → k ≤ am_mc e → n ≤ am_ms e → Q none I L G → X pc ls [] I L G k n)
end AMR
/-- THE JUDGEMENT: from here the method comes to its end, and there Q holds -/
def am_W (P : List am_E) (C : am_C) (e : am_E) (Q : am_Q) (pc : Nat) (ls st : List Value) (I : am_I) (L : am_L) (G : am_G) (k n : Nat) : Prop :=
  ∀ X : am_X, am_r1 e X → am_r2 e X → am_r3 e X → am_r4 e X → am_r5 e X → am_r6 e X → am_r7 e X → am_r8 P C e X → am_r9 e Q X → X pc ls st I L G k n
def am_pad (n : Nat) : List Value → List Value
  | [] => List.replicate n .null
  | v :: vs => match v with
    | .long _ => v :: .null :: am_pad (n - 2) vs
    | .double _ => v :: .null :: am_pad (n - 2) vs
    | _ => v :: am_pad (n - 1) vs
def am_nil : am_E := (⟨"", "", ""⟩, ⟨#[]⟩, 0, none, 0, 0, 0, [])
/-- the methods of P, called at most d deep -/
def am_call (P : List am_E) : Nat → am_C
  | 0 => fun _ _ _ _ _ _ => False
  | d + 1 => fun i as I L G Q => ∃ ec, P[i]? = some ec ∧ am_W P (am_call P d) ec Q 0 (am_pad (am_maxL ec) as) [] I L G 0 0
section AMM
variable {P : List am_E} {C : am_C} {e : am_E} {Q Q' : am_Q}
theorem am_W.mono (hq : ∀ r I L G, Q r I L G → Q' r I L G) {pc : Nat} {ls st : List Value} {I : am_I} {L : am_L} {G : am_G} {k n : Nat} (h : am_W P C e Q pc ls st I L G k n) : am_W P C e Q' pc ls st I L G k n := by
  intro X R1 R2 R3 R4 R5 R6 R7 R8 R9
  refine h X R1 R2 R3 R4 R5 R6 R7 R8 ⟨?_, ?_, ?_, ?_, ?_⟩
  · intro pc ls I L G k n a b v x h1 h2 h3 h4 h5
    exact R9.1 pc ls I L G k n a b v x h1 h2 h3 h4 (hq _ _ _ _ h5)
  · intro pc ls I L G k n a b v x h1 h2 h3 h4 h5 h6
    exact R9.2.1 pc ls I L G k n a b v x h1 h2 h3 h4 h5 (hq _ _ _ _ h6)
  · intro pc ls I L G k n a b v x h1 h2 h3 h4 h5
    exact R9.2.2.1 pc ls I L G k n a b v x h1 h2 h3 h4 (hq _ _ _ _ h5)
  · intro pc ls I L G k n a b v x rt h1 h2 h3 h4 h5 h6
    exact R9.2.2.2.1 pc ls I L G k n a b v x rt h1 h2 h3 h4 h5 (hq _ _ _ _ h6)
  · intro pc ls I L G k n a b v h1 h2 h3 h4 h5
    exact R9.2.2.2.2 pc ls I L G k n a b v h1 h2 h3 h4 (hq _ _ _ _ h5)
end AMM
theorem am_call.mono {P : List am_E} {d i : Nat} {as : List Value} {I : am_I} {L : am_L} {G : am_G} {Q Q' : am_Q} (hq : ∀ r I L G, Q r I L G → Q' r I L G) (h : am_call P d i as I L G Q) : am_call P d i as I L G Q' := by
  cases d with
  | zero => exact h
  | succ d =>
    obtain ⟨ec, h1, h2⟩ := h
    exact ⟨ec, h1, h2.mono hq⟩
theorem am_cs.mono {P P' : Nat → Int → Prop} (h : ∀ j o, P j o → P' j o) : ∀ (l : List Int) (j : Nat), am_cs P j l → am_cs P' j l
  | [], _, _ => trivial
  | _ :: l, j, hx => ⟨h _ _ hx.1, am_cs.mono h l (j + 1) hx.2⟩
theorem am_cp.mono {P P' : Int → Int → Prop} (h : ∀ j o, P j o → P' j o) : ∀ (l : List (Int × Int)), am_cp P l → am_cp P' l
  | [], _ => trivial
  | _ :: l, hx => ⟨h _ _ hx.1, am_cp.mono h l hx.2⟩
