section AMS
variable {ad : Nat → Nat} {cy : Nat → ClassId} {D : va_G} {base Lx : Nat} {xs : Nat → Int32} {E : am_E} {p : Program} {l : Launch} {v : Env} {R : Room} {s : State} {m : MethodId} {args : Array Value} {below : List Frame} {meth : Method} {c : Code} {QW : State → Prop}
theorem am_s1 (cx : am_Cx ad cy D base Lx xs E p R s m args meth c) : am_r1 E (am_Xs ad cy D base Lx xs E p l v R s m args below meth c QW) := by
  obtain ⟨hx, hb, hml, hown, hts, hin, ho, hK, had, hbs, hN, hX, hX1, hf, hlo, hc, hs⟩ := cx
  refine ⟨?_, ?_, ?_, ?_, ?_, ?_, ?_, ?_, ?_⟩
  · intro pc ls st I L G k n i a b v w h hw kk H locs lsv hi
    exact lv_iconst hx hb (am_dg ho h) hw (kk H locs lsv hi)
  · intro pc ls st I L G k n i a b v w h hw kk H locs lsv hi
    exact lv_bipush hx hb (am_dg ho h) hw (kk H locs lsv hi)
  · intro pc ls st I L G k n i a b v w h hw kk H locs lsv hi
    exact lv_sipush hx hb (am_dg ho h) hw (kk H locs lsv hi)
  · intro pc ls st I L G k n i a b v w h hw kk H locs lsv hi
    exact lv_lconst hx hb (am_dg ho h) hw (kk H locs lsv hi)
  · intro pc ls st I L G k n i a v w h hw kk H locs lsv hi
    subst hw
    exact lv_ldc hx hb hown (hts _ (am_ldcI ho h)) (am_dg ho h) (kk H locs lsv hi)
  · intro pc ls st I L G k n i a v w h hw kk H locs lsv hi
    subst hw
    exact lv_ldcw hx hb hown (hts _ (am_ldcW ho h)) (am_dg ho h) (kk H locs lsv hi)
  · intro pc ls st I L G k n i a v w h hw kk H locs lsv hi
    subst hw
    exact lv_ldc2 hx hb hown (hts _ (am_ldcL ho h)) (am_dg ho h) (kk H locs lsv hi)
  · intro pc ls st I L G k n i a v h kk H locs lsv hi
    obtain ⟨q, hq⟩ := am_ldcT ho h
    have h2 : 2 ≤ a := (of_decide_eq_true (List.all_eq_true.mp am_slz_ok _ hq)).2.1
    have e : am_tv ad (.ref a) = .ref (ad a) := by
      show va_rf (am_o ad a) = _
      unfold am_o
      rw [if_neg (by omega)]
      rfl
    have kk := kk H locs lsv hi
    rw [List.map_cons, e] at kk
    exact va_ldcS hx hb hown (hN.2.2.2 (am_own E, i, a) q hq) (am_dg ho h) kk
  · intro pc ls st I L G k n a b v h kk H locs lsv hi
    exact lv_null hx hb (am_dg ho h) (kk H locs lsv hi)
theorem am_In.lv {ls ls' : List Value} {I : am_I} {L : am_L} {G : am_G} {H : Heap} {locs : List Loc} {lsv lsv' : Array Slot} (h : am_In ad cy D base Lx xs E s ls I L G H locs lsv) (h1 : lv_has lsv' (am_maxL E) (am_as ad ls')) (h2 : ls'.length = am_maxL E) : am_In ad cy D base Lx xs E s ls' I L G H locs lsv' :=
  ⟨h.1, h.2.1, h.2.2.1, h.2.2.2.1, h.2.2.2.2.1, h.2.2.2.2.2.1, h1, h2⟩
theorem am_blt {i n : Nat} (h : Nat.blt i n = true) : i < n := Nat.le_of_ble_eq_true h
theorem am_s2 (cx : am_Cx ad cy D base Lx xs E p R s m args meth c) : am_r2 E (am_Xs ad cy D base Lx xs E p l v R s m args below meth c QW) := by
  obtain ⟨hx, hb, hml, hown, hts, hin, ho, hK, had, hbs, hN, hX, hX1, hf, hlo, hc, hs⟩ := cx
  have ald : ∀ {x : Nat}, x = 0 ∧ am_tv ad (.ref x) = .null ∨ am_tv ad (.ref x) = .ref (ad x) := by
    intro x
    by_cases h0 : x = 0
    · exact Or.inl ⟨h0, by subst h0; rfl⟩
    · right
      show va_rf (am_o ad x) = _
      unfold am_o
      rw [if_neg h0]
      rfl
  refine ⟨?_, ?_, ?_, ?_, ?_, ?_, ?_, ?_, ?_, ?_, ?_, ?_, ?_⟩
  · intro pc ls st I L G k n i a b v x h hl kk H locs lsv hi
    exact lv_iload_n hx hb (am_dg ho h) rfl (am_lget hi.2.2.2.2.2.2.1 hl rfl) (kk H locs lsv hi)
  · intro pc ls st I L G k n i a b v x h hl kk H locs lsv hi
    exact lv_iload hx hb (am_dg ho h) (am_lget hi.2.2.2.2.2.2.1 hl rfl) (kk H locs lsv hi)
  · intro pc ls st I L G k n i a b v x h hl kk H locs lsv hi
    exact lv_lload_n hx hb (am_dg ho h) rfl (am_lget hi.2.2.2.2.2.2.1 hl rfl) (kk H locs lsv hi)
  · intro pc ls st I L G k n i a b v x h hl kk H locs lsv hi
    exact lv_lload hx hb (am_dg ho h) (am_lget hi.2.2.2.2.2.2.1 hl rfl) (kk H locs lsv hi)
  · intro pc ls st I L G k n i a b v x h hl kk H locs lsv hi
    have h1 := am_lget hi.2.2.2.2.2.2.1 hl rfl
    have kk := kk H locs lsv hi
    rw [List.map_cons] at kk
    rcases ald (x := x) with ⟨-, e⟩ | e
    · rw [e] at h1 kk
      exact lv_aload_nN hx hb (am_dg ho h) rfl h1 kk
    · rw [e] at h1 kk
      exact lv_aload_n hx hb (am_dg ho h) rfl h1 kk
  · intro pc ls st I L G k n i a b v x h hl kk H locs lsv hi
    have h1 := am_lget hi.2.2.2.2.2.2.1 hl rfl
    have kk := kk H locs lsv hi
    rw [List.map_cons] at kk
    rcases ald (x := x) with ⟨-, e⟩ | e
    · rw [e] at h1 kk
      exact lv_aloadN hx hb (am_dg ho h) h1 kk
    · rw [e] at h1 kk
      exact lv_aload hx hb (am_dg ho h) h1 kk
  · intro pc ls st I L G k n i a b v x h hl hn kk H locs lsv hi
    have hl := am_blt hl
    exact lv_istore_n hx hb (am_dg ho h) rfl hi.2.2.2.2.2.2.1 (by rw [← hi.2.2.2.2.2.2.2]; exact hl) rfl (fun ls' h' => kk H locs ls' (hi.lv (am_has_sub h' (am_set1 (w := .int x) hn)) (by rw [List.length_set]; exact hi.2.2.2.2.2.2.2)))
  · intro pc ls st I L G k n i a b v x h hl hn kk H locs lsv hi
    have hl := am_blt hl
    exact lv_istore hx hb (am_dg ho h) hi.2.2.2.2.2.2.1 (by rw [← hi.2.2.2.2.2.2.2]; exact hl) rfl (fun ls' h' => kk H locs ls' (hi.lv (am_has_sub h' (am_set1 (w := .int x) hn)) (by rw [List.length_set]; exact hi.2.2.2.2.2.2.2)))
  · intro pc ls st I L G k n i a b v x h hl hn kk H locs lsv hi
    have hl := am_blt hl
    rw [List.map_cons]
    rcases ald (x := x) with ⟨-, e⟩ | e
    · rw [e]
      exact lv_astore_nN hx hb (am_dg ho h) rfl hi.2.2.2.2.2.2.1 (by rw [← hi.2.2.2.2.2.2.2]; exact hl) rfl (fun ls' h' => kk H locs ls' (hi.lv (am_has_sub h' (e ▸ am_set1 (w := .ref x) hn)) (by rw [List.length_set]; exact hi.2.2.2.2.2.2.2)))
    · rw [e]
      exact lv_astore_n hx hb (am_dg ho h) rfl hi.2.2.2.2.2.2.1 (by rw [← hi.2.2.2.2.2.2.2]; exact hl) rfl (fun ls' h' => kk H locs ls' (hi.lv (am_has_sub h' (e ▸ am_set1 (w := .ref x) hn)) (by rw [List.length_set]; exact hi.2.2.2.2.2.2.2)))
  · intro pc ls st I L G k n i a b v x h hl hn kk H locs lsv hi
    have hl := am_blt hl
    rw [List.map_cons]
    rcases ald (x := x) with ⟨-, e⟩ | e
    · rw [e]
      exact lv_astoreN hx hb (am_dg ho h) hi.2.2.2.2.2.2.1 (by rw [← hi.2.2.2.2.2.2.2]; exact hl) rfl (fun ls' h' => kk H locs ls' (hi.lv (am_has_sub h' (e ▸ am_set1 (w := .ref x) hn)) (by rw [List.length_set]; exact hi.2.2.2.2.2.2.2)))
    · rw [e]
      exact lv_astore hx hb (am_dg ho h) hi.2.2.2.2.2.2.1 (by rw [← hi.2.2.2.2.2.2.2]; exact hl) rfl (fun ls' h' => kk H locs ls' (hi.lv (am_has_sub h' (e ▸ am_set1 (w := .ref x) hn)) (by rw [List.length_set]; exact hi.2.2.2.2.2.2.2)))
  · intro pc ls st I L G k n i a b v x h hl hn kk H locs lsv hi
    have hl := am_blt hl
    exact lv_lstore_n hx hb (am_dg ho h) rfl hi.2.2.2.2.2.2.1 (by rw [← hi.2.2.2.2.2.2.2]; exact hl) rfl (fun ls' h' => kk H locs ls' (hi.lv (am_has_sub h' (am_set2 (w := .long x) hn)) (by rw [List.length_set, List.length_set]; exact hi.2.2.2.2.2.2.2)))
  · intro pc ls st I L G k n i a b v x h hl hn kk H locs lsv hi
    have hl := am_blt hl
    exact lv_lstore hx hb (am_dg ho h) hi.2.2.2.2.2.2.1 (by rw [← hi.2.2.2.2.2.2.2]; exact hl) rfl (fun ls' h' => kk H locs ls' (hi.lv (am_has_sub h' (am_set2 (w := .long x) hn)) (by rw [List.length_set, List.length_set]; exact hi.2.2.2.2.2.2.2)))
  · intro pc ls st I L G k n i d a b v x w h hl hw hn kk H locs lsv hi
    have hq : (i, Value.int x) ∈ am_as ad ls := am_as_mem.mpr ⟨_, hl, rfl, rfl⟩
    obtain ⟨j, hj⟩ := List.getElem?_of_mem hq
    exact lv_iinc (v := x + w) hx hb (am_dg ho h) hi.2.2.2.2.2.2.1 hj (by rw [hw]) (by rw [← hi.2.2.2.2.2.2.2]; exact (List.getElem?_eq_some_iff.mp hl).1) rfl (fun ls' h' => kk H locs ls' (hi.lv (am_has_sub h' (am_set1 (w := .int (x + w)) hn)) (by rw [List.length_set]; exact hi.2.2.2.2.2.2.2)))
theorem am_s3 (cx : am_Cx ad cy D base Lx xs E p R s m args meth c) : am_r3 E (am_Xs ad cy D base Lx xs E p l v R s m args below meth c QW) := by
  obtain ⟨hx, hb, hml, hown, hts, hin, ho, hK, had, hbs, hN, hX, hX1, hf, hlo, hc, hs⟩ := cx
  refine ⟨?_, ?_, ?_, ?_, ?_, ?_, ?_, ?_, ?_, ?_, ?_, ?_, ?_⟩
  · intro pc ls st I L G k n a b v x y h kk H locs lsv hi
    exact lv_iadd hx hb (am_dg ho h) (kk H locs lsv hi)
  · intro pc ls st I L G k n a b v x y h kk H locs lsv hi
    exact lv_isub hx hb (am_dg ho h) (kk H locs lsv hi)
  · intro pc ls st I L G k n a b v x y h kk H locs lsv hi
    exact lv_imul hx hb (am_dg ho h) (kk H locs lsv hi)
  · intro pc ls st I L G k n a b v x y h hy kk H locs lsv hi
    exact lv_idiv hx hb (am_dg ho h) hy (kk H locs lsv hi)
  · intro pc ls st I L G k n a b v x y h hy kk H locs lsv hi
    exact lv_irem hx hb (am_dg ho h) hy (kk H locs lsv hi)
  · intro pc ls st I L G k n a b v x y h kk H locs lsv hi
    exact lv_iand hx hb (am_dg ho h) (kk H locs lsv hi)
  · intro pc ls st I L G k n a b v x y h kk H locs lsv hi
    exact lv_ior hx hb (am_dg ho h) (kk H locs lsv hi)
  · intro pc ls st I L G k n a b v x y h kk H locs lsv hi
    exact lv_ishl hx hb (am_dg ho h) (kk H locs lsv hi)
  · intro pc ls st I L G k n a b v x y h kk H locs lsv hi
    exact lv_ishr hx hb (am_dg ho h) (kk H locs lsv hi)
  · intro pc ls st I L G k n a b v x y h kk H locs lsv hi
    exact lv_iushr hx hb (am_dg ho h) rfl (kk H locs lsv hi)
  · intro pc ls st I L G k n a b v x h kk H locs lsv hi
    exact lv_i2l hx hb (am_dg ho h) rfl (kk H locs lsv hi)
  · intro pc ls st I L G k n a b v x h kk H locs lsv hi
    exact lv_l2i hx hb (am_dg ho h) rfl (kk H locs lsv hi)
  · intro pc ls st I L G k n a b v x h kk H locs lsv hi
    exact lv_i2b hx hb (am_dg ho h) rfl (kk H locs lsv hi)
theorem am_tvc (ad : Nat → Nat) {x : Value} (h : x.category = 1) : (am_tv ad x).category = 1 := by
  cases x with
  | ref a =>
    show (va_rf (am_o ad a)).category = 1
    unfold am_o
    by_cases h0 : a = 0 <;> simp [h0, va_rf, Value.category]
  | _ => exact h
theorem am_s4 (cx : am_Cx ad cy D base Lx xs E p R s m args meth c) : am_r4 E (am_Xs ad cy D base Lx xs E p l v R s m args below meth c QW) := by
  obtain ⟨hx, hb, hml, hown, hts, hin, ho, hK, had, hbs, hN, hX, hX1, hf, hlo, hc, hs⟩ := cx
  refine ⟨?_, ?_, ?_, ?_, ?_, ?_, ?_, ?_, ?_, ?_, ?_, ?_, ?_, ?_, ?_⟩
  · intro pc ls st I L G k n a b v x y h kk H locs lsv hi
    exact lv_ladd hx hb (am_dg ho h) (kk H locs lsv hi)
  · intro pc ls st I L G k n a b v x y h kk H locs lsv hi
    exact lv_lsub hx hb (am_dg ho h) (kk H locs lsv hi)
  · intro pc ls st I L G k n a b v x y h kk H locs lsv hi
    exact lv_lmul hx hb (am_dg ho h) (kk H locs lsv hi)
  · intro pc ls st I L G k n a b v x y h hy kk H locs lsv hi
    exact lv_ldiv hx hb (am_dg ho h) hy (kk H locs lsv hi)
  · intro pc ls st I L G k n a b v x y h hy kk H locs lsv hi
    exact lv_lrem hx hb (am_dg ho h) hy (kk H locs lsv hi)
  · intro pc ls st I L G k n a b v x y h kk H locs lsv hi
    exact lv_land hx hb (am_dg ho h) (kk H locs lsv hi)
  · intro pc ls st I L G k n a b v x y h kk H locs lsv hi
    exact lv_lor hx hb (am_dg ho h) (kk H locs lsv hi)
  · intro pc ls st I L G k n a b v x y h kk H locs lsv hi
    exact lv_lxor hx hb (am_dg ho h) (kk H locs lsv hi)
  · intro pc ls st I L G k n a b v x y h kk H locs lsv hi
    exact lv_lshl hx hb (am_dg ho h) rfl (kk H locs lsv hi)
  · intro pc ls st I L G k n a b v x y h kk H locs lsv hi
    exact lv_lshr hx hb (am_dg ho h) rfl (kk H locs lsv hi)
  · intro pc ls st I L G k n a b v x y h kk H locs lsv hi
    exact lv_lushr hx hb (am_dg ho h) rfl (kk H locs lsv hi)
  · intro pc ls st I L G k n a b v x y h kk H locs lsv hi
    exact W.lcmp hx hb (am_dg ho h) (kk H locs lsv hi)
  · intro pc ls st I L G k n a b v x h hc kk H locs lsv hi
    exact lv_dup hx hb (am_dg ho h) (am_tvc ad hc) (kk H locs lsv hi)
  · intro pc ls st I L G k n a b v x y h hc hd kk H locs lsv hi
    exact lv_dup2_11 hx hb (am_dg ho h) (am_tvc ad hc) (am_tvc ad hd) (kk H locs lsv hi)
  · intro pc ls st I L G k n a b v x h hc kk H locs lsv hi
    exact lv_pop hx hb (am_dg ho h) (am_tvc ad hc) (kk H locs lsv hi)
theorem am_cs_get {P : Nat → Int → Prop} : ∀ {l : List Int} {j : Nat}, am_cs P j l → ∀ {i : Nat} {o : Int}, l[i]? = some o → P (j + i) o
  | [], _, _, i, o, h => by simp at h
  | x :: l, j, hc, 0, o, h => by
    rw [List.getElem?_cons_zero] at h
    cases h
    exact hc.1
  | x :: l, j, hc, i + 1, o, h => by
    rw [List.getElem?_cons_succ] at h
    have := am_cs_get hc.2 h
    rw [show j + 1 + i = j + (i + 1) by omega] at this
    exact this
theorem am_cp_get {P : Int → Int → Prop} : ∀ {l : List (Int × Int)}, am_cp P l → ∀ {q : Int × Int}, q ∈ l → P q.1 q.2
  | [], _, q, h => by cases h
  | x :: l, hc, q, h => by
    rcases List.mem_cons.mp h with rfl | h
    · exact hc.1
    · exact am_cp_get hc.2 h
theorem am_s5 (cx : am_Cx ad cy D base Lx xs E p R s m args meth c) : am_r5 E (am_Xs ad cy D base Lx xs E p l v R s m args below meth c QW) := by
  obtain ⟨hx, hb, hml, hown, hts, hin, ho, hK, had, hbs, hN, hX, hX1, hf, hlo, hc, hs⟩ := cx
  refine ⟨?_, ?_, ?_, ?_, ?_, ?_, ?_, ?_, ?_, ?_, ?_, ?_, ?_, ?_, ?_, ?_, ?_⟩
  · intro pc ls st I L G k n a b v x off t h ht k1 k2 H locs lsv hi
    exact lv_if_eq hx hb (am_dg ho h) ht (fun z => k1 z H locs lsv hi) (fun z => k2 z H locs lsv hi)
  · intro pc ls st I L G k n a b v x off t h ht k1 k2 H locs lsv hi
    exact lv_if_ne hx hb (am_dg ho h) ht (fun z => k1 z H locs lsv hi) (fun z => k2 z H locs lsv hi)
  · intro pc ls st I L G k n a b v x off t h ht k1 k2 H locs lsv hi
    exact lv_if_lt hx hb (am_dg ho h) ht (fun z => k1 z H locs lsv hi) (fun z => k2 z H locs lsv hi)
  · intro pc ls st I L G k n a b v x off t h ht k1 k2 H locs lsv hi
    exact lv_if_ge hx hb (am_dg ho h) ht (fun z => k1 (Int32.not_lt.mpr z) H locs lsv hi) (fun z => k2 (Int32.not_le.mp z) H locs lsv hi)
  · intro pc ls st I L G k n a b v x off t h ht k1 k2 H locs lsv hi
    exact lv_if_gt hx hb (am_dg ho h) ht (fun z => k1 z H locs lsv hi) (fun z => k2 z H locs lsv hi)
  · intro pc ls st I L G k n a b v x off t h ht k1 k2 H locs lsv hi
    exact lv_if_le hx hb (am_dg ho h) ht (fun z => k1 (Int32.not_lt.mpr z) H locs lsv hi) (fun z => k2 (Int32.not_le.mp z) H locs lsv hi)
  · intro pc ls st I L G k n a b v x y off t h ht k1 k2 H locs lsv hi
    exact lv_icmp_eq hx hb (am_dg ho h) ht (fun z => k1 z H locs lsv hi) (fun z => k2 z H locs lsv hi)
  · intro pc ls st I L G k n a b v x y off t h ht k1 k2 H locs lsv hi
    exact lv_icmp_ne hx hb (am_dg ho h) ht (fun z => k1 z H locs lsv hi) (fun z => k2 z H locs lsv hi)
  · intro pc ls st I L G k n a b v x y off t h ht k1 k2 H locs lsv hi
    exact lv_icmp_lt hx hb (am_dg ho h) ht (fun z => k1 z H locs lsv hi) (fun z => k2 z H locs lsv hi)
  · intro pc ls st I L G k n a b v x y off t h ht k1 k2 H locs lsv hi
    exact lv_icmp_ge hx hb (am_dg ho h) ht (fun z => k1 (Int32.not_lt.mpr z) H locs lsv hi) (fun z => k2 (Int32.not_le.mp z) H locs lsv hi)
  · intro pc ls st I L G k n a b v x y off t h ht k1 k2 H locs lsv hi
    exact lv_icmp_gt hx hb (am_dg ho h) ht (fun z => k1 z H locs lsv hi) (fun z => k2 z H locs lsv hi)
  · intro pc ls st I L G k n a b v x y off t h ht k1 k2 H locs lsv hi
    exact lv_icmp_le hx hb (am_dg ho h) ht (fun z => k1 (Int32.not_lt.mpr z) H locs lsv hi) (fun z => k2 (Int32.not_le.mp z) H locs lsv hi)
  · intro pc ls st I L G k n a b v off t h ht k1 H locs lsv hi
    exact lv_goto hx hb (am_dg ho h) ht (k1 H locs lsv hi)
  · intro pc ls st I L G k n a b v x off t h ht k1 k2 H locs lsv hi
    rw [List.map_cons]
    by_cases h0 : x = 0
    · subst h0
      exact lv_ifnullN hx hb (am_dg ho h) ht (k1 rfl H locs lsv hi)
    · have e : am_tv ad (.ref x) = .ref (ad x) := by
        show va_rf (am_o ad x) = _
        unfold am_o
        rw [if_neg h0]
        rfl
      rw [e]
      exact lv_ifnull hx hb (am_dg ho h) (k2 h0 H locs lsv hi)
  · intro pc ls st I L G k n a b v x off t h ht k1 k2 H locs lsv hi
    rw [List.map_cons]
    by_cases h0 : x = 0
    · subst h0
      exact lv_ifnonnullN hx hb (am_dg ho h) (k2 rfl H locs lsv hi)
    · have e : am_tv ad (.ref x) = .ref (ad x) := by
        show va_rf (am_o ad x) = _
        unfold am_o
        rw [if_neg h0]
        rfl
      rw [e]
      exact lv_ifnonnull hx hb (am_dg ho h) ht (k1 h0 H locs lsv hi)
  · intro pc ls st I L G k n a b v x d lo hi' offs len h hsz k1 k2 k3 H locs lsv hi
    by_cases h1 : x.toInt < lo ∨ hi' < x.toInt
    · have hp : 0 ≤ (pc : Int) + d := k3.1
      exact lv_tableOut hx hb (am_dg ho h) h1 (Int.toNat_of_nonneg hp).symm (k2 h1 H locs lsv hi)
    · have h2 : ¬ x.toInt < lo := fun z => h1 (Or.inl z)
      have h3 : ¬ hi' < x.toInt := fun z => h1 (Or.inr z)
      have h4 : (x.toInt - lo).toNat < offs.size := by omega
      have h5 : offs[(x.toInt - lo).toNat]? = some offs[(x.toInt - lo).toNat] := Array.getElem?_eq_getElem h4
      have h6 : offs.toList[(x.toInt - lo).toNat]? = some offs[(x.toInt - lo).toNat] := by rw [Array.getElem?_toList]; exact h5
      have h7 := am_cs_get k1 h6
      have hp : 0 ≤ (pc : Int) + offs[(x.toInt - lo).toNat] := am_cs_get k3.2 h6
      exact lv_tableIn hx hb (am_dg ho h) h2 h3 h5 (Int.toNat_of_nonneg hp).symm (h7 (by omega) H locs lsv hi)
  · intro pc ls st I L G k n a b v x d ps len h hal k1 k2 k3 H locs lsv hi
    have key : ∀ (l : List (Int × Int)), (∃ q ∈ l, x.toInt = q.1 ∧ Op.lookupswitch.offset l d x.toInt = q.2) ∨ ((∀ q ∈ l, ¬ x.toInt = q.1) ∧ Op.lookupswitch.offset l d x.toInt = d) := by
      intro l
      cases hf : l.find? (fun q => q.1 == x.toInt) with
      | none =>
        right
        refine ⟨fun q hq e => ?_, Op.lookupswitch.offset_none hf⟩
        have := List.find?_eq_none.mp hf q hq
        simp [e] at this
      | some q =>
        left
        have h1 := List.find?_some hf
        exact ⟨q, List.mem_of_find?_eq_some hf, (beq_iff_eq.mp h1).symm, Op.lookupswitch.offset_some hf⟩
    rcases key ps.toList with ⟨q, hq, e1, e2⟩ | ⟨e1, e2⟩
    · have hp : 0 ≤ (pc : Int) + q.2 := am_cp_get k3.2 hq
      exact lv_lookup hx hb (am_dg ho h) hal e2 (Int.toNat_of_nonneg hp).symm (am_cp_get k1 hq e1 H locs lsv hi)
    · have hp : 0 ≤ (pc : Int) + d := k3.1
      exact lv_lookup hx hb (am_dg ho h) hal e2 (Int.toNat_of_nonneg hp).symm (k2 e1 H locs lsv hi)
end AMS
