theorem am_ac_int : Cond.arrayClass .int ∈ lw_g := lw_g_of (by decide +kernel) rfl
theorem am_ac_byte : Cond.arrayClass .byte ∈ lw_g := lw_g_of (by decide +kernel) rfl
theorem am_ac_bool : Cond.arrayClass .boolean ∈ lw_g := lw_g_of (by decide +kernel) rfl
theorem am_ac_long : Cond.arrayClass .long ∈ lw_g := lw_g_of (by decide +kernel) rfl
theorem am_outer (c : ClassId) (h0 : Nat) : Jvm.Free.Multi.outerC c 2 h0 2 = arrV c 2 (fun j => va_rf (if j < 2 then some (h0 + 1 + j) else none)) := by
  show (({ cls := c, slots := Array.replicate 2 .null, vm := .none } : Cell).setSlot 0 (.ref (h0 + 1 + 0))).setSlot 1 (.ref (h0 + 1 + 1)) = _
  rw [arrV_new, arrV_store, arrV_store]
  refine congrArg (arrV c 2) (funext fun j => ?_)
  unfold updV
  by_cases h1 : j = 1
  · subst h1; rfl
  · by_cases h2 : j = 0
    · subst h2; rfl
    · rw [if_neg h1, if_neg h2, if_neg (by omega)]
      rfl
section AMS
variable {ad : Nat → Nat} {cy : Nat → ClassId} {D : va_G} {base Lx : Nat} {xs : Nat → Int32} {E : am_E} {p : Program} {l : Launch} {v : Env} {R : Room} {s : State} {m : MethodId} {args : Array Value} {below : List Frame} {meth : Method} {c : Code} {QW : State → Prop}
/-- a step that made one cell -/
theorem am_In.nw {ls : List Value} {I I' : am_I} {L L' : am_L} {G G' : am_G} {H H1 : Heap} {locs : List Loc} {lsv : Array Slot} (had : ∀ i, ad (i + 12) = base + i) (h : am_In ad cy D base Lx xs E s ls I L G H locs lsv) (hn : G'.2.2 = G.2.2 + 1) (ho : ∀ b, b ≠ G.2.2 → I' b = I b ∧ L' b = L b ∧ G'.1 b = G.1 b ∧ G'.2.1 b = G.2.1 b) (hw1 : ∀ c, G'.2.1 G.2.2 = .inl c → c < 12) (hw2 : ∀ t N, G'.2.1 G.2.2 = .inr (t, N) → t < 8)
    (he : va_at D am_cl (H.size, am_cell ad cy I' L' G' G.2.2) H1) (z : H1.size = H.size + 1) (oq : ∀ q, q < H.size → H1[q]? = H[q]?) : am_In ad cy D base Lx xs E s ls I' L' G' H1 locs lsv ∧ am_tv ad (.ref G.2.2) = .ref H.size := by
  obtain ⟨h1, h2, h3, h4, h5, h6, h7⟩ := h
  have hd : ad G.2.2 = H.size := by have := am_ad had h2; omega
  refine ⟨⟨by rw [z, hn]; omega, by omega, ?_, ⟨Nat.le_trans h4.1 (by omega), fun q q1 q2 => (oq q (Nat.lt_of_lt_of_le q1 h4.1)).trans (h4.2.1 q q1 q2), h4.2.2⟩, ⟨?_, ?_⟩, fun j hj => ?_, h7⟩, by rw [am_tvr ad h2, hd]⟩
  · intro a g1 g2
    by_cases ha : a = G.2.2
    · subst ha
      rw [hd]
      exact he
    · obtain ⟨e1, e2, e3, e4⟩ := ho a ha
      have e : am_cell ad cy I' L' G' a = am_cell ad cy I L G a := by
        unfold am_cell
        rw [e1, e2, e3, e4]
      rw [e]
      have h8 := h3 a g1 (by omega)
      exact h8.kept (oq _ h8.lt)
  · intro a cc hc
    by_cases ha : a = G.2.2
    · subst ha
      exact ⟨h2, by omega, hw1 cc hc⟩
    · rw [(ho a ha).2.2.2] at hc
      have := h5.1 a cc hc
      exact ⟨this.1, by omega, this.2.2⟩
  · intro a t N hc
    by_cases ha : a = G.2.2
    · subst ha
      have := hw2 t N hc
      exact ⟨fun _ => ⟨h2, by omega⟩, fun h => by omega⟩
    · rw [(ho a ha).2.2.2] at hc
      have := h5.2 a t N hc
      exact ⟨fun h => ⟨(this.1 h).1, by have := (this.1 h).2; omega⟩, this.2⟩
  · rw [(ho 1 (by omega)).1]
    exact h6 j hj
/-- a step that made three cells -/
theorem am_In.nw3 {ls : List Value} {I I' : am_I} {L L' : am_L} {G G' : am_G} {H H1 : Heap} {locs : List Loc} {lsv : Array Slot} (had : ∀ i, ad (i + 12) = base + i) (h : am_In ad cy D base Lx xs E s ls I L G H locs lsv) (hn : G'.2.2 = G.2.2 + 3) (ho : ∀ b, b < G.2.2 ∨ G.2.2 + 3 ≤ b → I' b = I b ∧ L' b = L b ∧ G'.1 b = G.1 b ∧ G'.2.1 b = G.2.1 b) (hw : ∀ b, G.2.2 ≤ b → b < G.2.2 + 3 → ∃ t N, G'.2.1 b = .inr (t, N) ∧ t < 8)
    (he : ∀ b, G.2.2 ≤ b → b < G.2.2 + 3 → va_at D am_cl (ad b, am_cell ad cy I' L' G' b) H1) (z : H1.size = H.size + 3) (oq : ∀ q, q < H.size → H1[q]? = H[q]?) : am_In ad cy D base Lx xs E s ls I' L' G' H1 locs lsv := by
  obtain ⟨h1, h2, h3, h4, h5, h6, h7⟩ := h
  refine ⟨by rw [z, hn]; omega, by omega, ?_, ⟨Nat.le_trans h4.1 (by omega), fun q q1 q2 => (oq q (Nat.lt_of_lt_of_le q1 h4.1)).trans (h4.2.1 q q1 q2), h4.2.2⟩, ⟨?_, ?_⟩, fun j hj => ?_, h7⟩
  · intro a g1 g2
    by_cases ha : a < G.2.2
    · obtain ⟨e1, e2, e3, e4⟩ := ho a (Or.inl ha)
      have e : am_cell ad cy I' L' G' a = am_cell ad cy I L G a := by
        unfold am_cell
        rw [e1, e2, e3, e4]
      rw [e]
      have h8 := h3 a g1 ha
      exact h8.kept (oq _ h8.lt)
    · exact he a (by omega) (by omega)
  · intro a cc hc
    by_cases ha : a < G.2.2 ∨ G.2.2 + 3 ≤ a
    · rw [(ho a ha).2.2.2] at hc
      have := h5.1 a cc hc
      exact ⟨this.1, by omega, this.2.2⟩
    · obtain ⟨t, N, e, -⟩ := hw a (by omega) (by omega)
      rw [e] at hc
      cases hc
  · intro a t N hc
    by_cases ha : a < G.2.2 ∨ G.2.2 + 3 ≤ a
    · rw [(ho a ha).2.2.2] at hc
      have := h5.2 a t N hc
      exact ⟨fun h => ⟨(this.1 h).1, by have := (this.1 h).2; omega⟩, this.2⟩
    · obtain ⟨t', N', e, e8⟩ := hw a (by omega) (by omega)
      rw [e] at hc
      cases hc
      exact ⟨fun _ => by omega, fun h => by omega⟩
  · rw [(ho 1 (by omega)).1]
    exact h6 j hj
theorem am_new_at {G : am_G} {x : am_Sh} : (am_new G x).2.1 G.2.2 = x := if_pos rfl
theorem am_new_ne {G : am_G} {x : am_Sh} {b : Nat} (h : b ≠ G.2.2) : (am_new G x).2.1 b = G.2.1 b ∧ (am_new G x).1 b = G.1 b := ⟨if_neg h, if_neg h⟩
theorem am_new_r {G : am_G} {x : am_Sh} : (am_new G x).1 G.2.2 = fun _ => 0 := if_pos rfl
theorem am_zero {cc : Nat} (hc : cc < 12) : ∀ j, j < am_N cc → defaultValue (am_ty cc j) = vp_V (am_fs ad cc (fun _ => 0) (fun _ => 0) (fun _ => 0)) j := by
  intro j hj
  have h1 := am_kd_ok cc hc j hj
  have h2 := am_ty_which cc hc j hj
  unfold vp_V
  rw [List.getD_eq_getElem?_getD, am_fs_get h1]
  cases ht : am_ty cc j with
  | int => rfl
  | long => rfl
  | boolean => rfl
  | object nm => rfl
  | array t => rfl
  | _ => rw [ht] at h2; cases h2
theorem am_s7 (cx : am_Cx ad cy D base Lx xs E p R s m args meth c) : am_r7 E (am_Xs ad cy D base Lx xs E p l v R s m args below meth c QW) := by
  obtain ⟨hx, hb, hml, hown, hts, hin, ho, hK, had, hbs, hN, hX, hX1, hf, hlo, hc, hs⟩ := cx
  have harr : ∀ {I' : am_I} {L' : am_L} {G : am_G} {x : am_Sh} {I : am_I} {L : am_L}, I' = am_r I G.2.2 (fun _ => 0) → L' = am_r L G.2.2 (fun _ => 0) → ∀ b, b ≠ G.2.2 → I' b = I b ∧ L' b = L b ∧ (am_new G x).1 b = G.1 b ∧ (am_new G x).2.1 b = G.2.1 b := by
    intro I' L' G x I L e1 e2 b hb
    subst e1
    subst e2
    exact ⟨am_r_ne hb, am_r_ne hb, (am_new_ne hb).2, (am_new_ne hb).1⟩
  refine ⟨?_, ?_, ?_, ?_⟩
  · intro pc ls st I L G k n i cc f v h hk1 hk2 kk H locs lsv hi
    obtain ⟨hl, hNf⟩ := am_nw ho h
    subst hNf
    have hcc : cc < 12 := by
      apply Classical.byContradiction
      intro hcc
      have h1 := am_lk_at ho h rfl
      obtain ⟨q, hq, hb⟩ := List.any_eq_true.mp h1
      simp only [Bool.and_eq_true] at hb
      have h9 : am_klz.all (fun q => decide (q.1.2.2.1 < 12)) = true := by decide +kernel
      have h8 := of_decide_eq_true (List.all_eq_true.mp h9 q hq)
      rw [Nat.eq_of_beq_eq_true hb.2.2.1] at h8
      exact hcc h8
    have hKn := hK.1 cc _ (am_cl_get hcc)
    refine W.newcK hx hb hown (hts _ hl) (hts _ (lw_g_of (am_in_ok cc hcc).1 rfl)) (hts _ (lw_g_of (am_in_ok cc hcc).2 rfl)) rfl (am_dg ho h) (by rw [hc]; exact Nat.le_of_ble_eq_true hk1) (by rw [hs]; exact Nat.le_of_ble_eq_true hk2) hKn.2.1 rfl fun H1 kC hkC e1 z1 o1 => ?_
    obtain ⟨j1, j2⟩ := hi.nw (I' := am_r I G.2.2 (fun _ => 0)) (L' := am_r L G.2.2 (fun _ => 0)) (G' := am_new G (.inl cc)) had rfl (harr rfl rfl) (fun c e => by rw [am_new_at] at e; cases e; exact hcc) (fun t N e => by rw [am_new_at] at e; cases e) (H1 := H1) (by
      unfold am_cell
      rw [am_new_at, am_r_at, am_r_at, am_new_r]
      exact ⟨_, am_cl_get hcc, (u_born (am_ty cc) hts (am_uws_g hcc) hKn hkC e1 (am_ty_ok cc hcc)).to (am_zero hcc)⟩) z1 o1
    have kk := kk H1 locs lsv j1
    rw [List.map_cons, j2] at kk
    exact kk
  · intro pc ls st I L G k n ty a b v t N x h hty hx0 hxN hN6 hk1 hk2 kk H locs lsv hi
    have hAc : ∃ ft, newarray.typeOf ty = ft ∧ Cond.arrayClass ft ∈ lw_g ∧ (am_tys cy)[t]? = some (cy t, ft) ∧ (∀ cA, va_RA s cA ft → s.vm.findClass ("[" ++ ft.toString) = some cA) ∧ componentBytes ft ≤ 8 ∧ t < 8 ∧ ∀ cA, arrV cA N (fun _ => defaultValue ft) = vp_cell cA (am_ar ad t N (fun _ => 0) (fun _ => 0) (fun _ => 0)) := by
      rcases hty with ⟨rfl, rfl⟩ | ⟨rfl, rfl⟩ | ⟨rfl, rfl⟩ | ⟨rfl, rfl⟩
      · exact ⟨_, rfl, am_ac_int, rfl, fun _ h => h, by decide, by decide, fun _ => rfl⟩
      · exact ⟨_, rfl, am_ac_byte, rfl, fun _ h => h, by decide, by decide, fun _ => rfl⟩
      · exact ⟨_, rfl, am_ac_bool, rfl, fun _ h => h, by decide, by decide, fun _ => rfl⟩
      · exact ⟨_, rfl, am_ac_long, rfl, fun _ h => h, by decide, by decide, fun _ => rfl⟩
    obtain ⟨ft, f1, f2, f3, f4, f5, f6, f7⟩ := hAc
    subst f1
    refine va_newaK hx hb (hts _ f2) rfl (am_dg ho h) rfl hx0 hxN (by have := Nat.mul_le_mul hN6 f5; omega) (by rw [hc]; exact hk1) (by rw [hs]; exact hk2) rfl fun H1 cA e1 z1 o1 hAr hNm => ?_
    have hcA : cA = cy t := Option.some.inj (hNm.symm.trans (f4 _ (hK.2 t _ f3).2))
    subst hcA
    obtain ⟨j1, j2⟩ := hi.nw (I' := am_r I G.2.2 (fun _ => 0)) (L' := am_r L G.2.2 (fun _ => 0)) (G' := am_new G (.inr (t, N))) had rfl (harr rfl rfl) (fun c e => by rw [am_new_at] at e; cases e) (fun t N e => by rw [am_new_at] at e; cases e; exact f6) (H1 := H1) (by
      unfold am_cell
      rw [am_new_at, am_r_at, am_r_at, am_new_r]
      show H1[H.size]? = some (vp_cell (cy t) (am_ar ad t N (fun _ => 0) (fun _ => 0) (fun _ => 0)))
      rw [← f7]
      exact e1) z1 o1
    have kk := kk H1 locs lsv j1
    rw [List.map_cons, j2] at kk
    exact kk
  · intro pc ls st I L G k n i cc b v t N x h hty hx0 hxN hN6 hk1 hk2 kk H locs lsv hi
    have hcc : cc < 12 ∧ (cc = 5 ∨ cc = 6 ∨ cc = 8) ∧ (am_tys cy)[t]? = some (cy t, .object (am_cn cc)) ∧ 4 ≤ t ∧ t < 8 := by
      rcases hty with ⟨rfl, rfl⟩ | ⟨rfl, rfl⟩ | ⟨rfl, rfl⟩
      · exact ⟨by decide, by decide, rfl, by decide, by decide⟩
      · exact ⟨by decide, by decide, rfl, by decide, by decide⟩
      · exact ⟨by decide, by decide, rfl, by decide, by decide⟩
    obtain ⟨c1, c2, f3, c3, c4⟩ := hcc
    subst hxN
    refine W.anew hx hb hown (hts _ (am_aw ho h)) (va_AO.use (hN.2.1 cc c1 c2)) rfl (am_dg ho h) rfl hx0 (by omega) (by rw [hc]; exact hk1) (by rw [hs]; exact hk2) fun cA kA comp f1 f2 f3' f4 => ?_
    obtain ⟨kA', comp', -, -, -, g4⟩ := (hK.2 t _ f3).2
    have hcA : cA = cy t := Option.some.inj (f1.symm.trans g4)
    subst hcA
    generalize hH1 : H.push ({ cls := cy t, slots := Array.replicate x.toNatClampNeg .null, vm := .none } : Cell) = H1
    have z1 : H1.size = H.size + 1 := by rw [← hH1, Array.size_push]
    have e1 : H1[H.size]? = some (arrV (cy t) x.toNatClampNeg (fun _ => .null)) := by rw [← hH1, Array.getElem?_push_size, ← arrV_new]
    have o1 : ∀ q : Nat, q < H.size → H1[q]? = H[q]? := fun q hq => by rw [← hH1, Array.getElem?_push, if_neg (Nat.ne_of_lt hq)]
    obtain ⟨j1, j2⟩ := hi.nw (I' := am_r I G.2.2 (fun _ => 0)) (L' := am_r L G.2.2 (fun _ => 0)) (G' := am_new G (.inr (t, x.toNatClampNeg))) had rfl (harr rfl rfl) (fun c e => by rw [am_new_at] at e; cases e) (fun t N e => by rw [am_new_at] at e; cases e; exact c4) (H1 := H1) (by
      unfold am_cell
      rw [am_new_at, am_r_at, am_r_at, am_new_r]
      show H1[H.size]? = some (vp_cell (cy t) (am_ar ad t x.toNatClampNeg (fun _ => 0) (fun _ => 0) (fun _ => 0)))
      unfold am_ar
      rw [if_neg (by omega), if_neg (by omega)]
      exact e1) z1 o1
    have kk := kk H1 locs lsv j1
    rw [List.map_cons, j2] at kk
    exact kk
  · intro pc ls st I L G k n i a b v N x h hx0 hxN hN6 hk1 hk2 kk H locs lsv hi
    subst hxN
    intro T hT Xs
    have e9 : "[" ++ (FieldType.array .int).toString = "[[I" := by decide
    obtain ⟨vm₁, cA, comp, -, fA, fC, -, -, X', step⟩ := Xs.multianewarray2F hx hown (ty := .int) (n := 2) (k := x) (by rw [e9]; exact hts _ (am_mw ho h)) hN.2.2.1 (hts _ am_ac_int) (g := F0 m pc lsv ((.int x :: .int 2 :: st : List Value).map (am_tv ad))) rfl (by rw [hb]; exact am_dg ho h) rfl (by decide) hx0 (by decide) (by show x.toNatClampNeg * 4 ≤ _; omega) (by omega) rfl rfl (by rw [hc]; show k + (1 + 2) ≤ _; omega) (by rw [hs]; show n + (2 + 2 * x.toNatClampNeg) ≤ _; omega)
    rw [show Int32.toNatClampNeg 2 = 2 from by decide] at X' step
    have hcA : cA = cy 7 := Option.some.inj (fA.symm.trans (hK.2 7 _ rfl).2)
    have hcm : comp = cy 0 := Option.some.inj (fC.symm.trans (hK.2 0 _ rfl).2)
    subst hcA
    subst hcm
    have hTh : (T.setVm vm₁).heap = H := hT
    obtain ⟨f1, f2, -, -⟩ := Jvm.Free.Multi.fill_facts (T.setVm vm₁) (cy 7) (cy 0) 2 x.toNatClampNeg (defaultValue .int) 2
    have fo : ∀ q : Nat, q < H.size → (Jvm.Free.Multi.fill (T.setVm vm₁) (cy 7) (cy 0) 2 x.toNatClampNeg (defaultValue .int) 2).heap[q]? = H[q]? := fun q hq => by
      have := Jvm.Free.Multi.fill_old (T.setVm vm₁) (cy 7) (cy 0) 2 x.toNatClampNeg (defaultValue .int) (a := q) (by rw [hTh]; exact hq) 2
      rw [hTh] at this
      exact this
    have fi : ∀ j : Nat, j < 2 → (Jvm.Free.Multi.fill (T.setVm vm₁) (cy 7) (cy 0) 2 x.toNatClampNeg (defaultValue .int) 2).heap[H.size + 1 + j]? = some (arrV (cy 0) x.toNatClampNeg (fun _ => .int 0)) := fun j hj => by
      have := Jvm.Free.Multi.fill_inner (T.setVm vm₁) (cy 7) (cy 0) 2 x.toNatClampNeg (defaultValue .int) 2 j hj
      rw [hTh] at this
      rw [this]
      exact congrArg some (arrV_new (cy 0) x.toNatClampNeg (.int 0))
    rw [hTh, am_outer] at f2
    rw [hTh] at f1
    generalize Jvm.Free.Multi.fill (T.setVm vm₁) (cy 7) (cy 0) 2 x.toNatClampNeg (defaultValue .int) 2 = F at *
    have h12 := hi.2.1
    have had0 : ∀ j, ad (G.2.2 + j) = H.size + j := by
      intro j
      have h1 := am_ad had (a := G.2.2 + j) (by omega)
      have h2 := hi.1
      omega
    have key := kk F.heap locs lsv (hi.nw3 had rfl (fun b hb => ?_) (fun b hb1 hb2 => ?_) (fun b hb1 hb2 => ?_) (by rw [f1]) fo)
    · have e8 : am_tv ad (.ref G.2.2) = .ref H.size := by rw [am_tvr ad h12]; exact congrArg _ (had0 0)
      rw [List.map_cons, e8, ← hT] at key
      obtain ⟨t2, a1, b1⟩ := key F rfl X'
      exact ⟨t2, step t2 a1, b1⟩
    · have n0 : b ≠ G.2.2 := by omega
      have n1 : b ≠ G.2.2 + 1 := by omega
      have n2 : b ≠ G.2.2 + 2 := by omega
      refine ⟨?_, ?_, ?_, ?_⟩
      · rw [am_r_ne n2, am_r_ne n1, am_r_ne n0]
      · rw [am_r_ne n2, am_r_ne n1, am_r_ne n0]
      · show am_r (am_new (am_new (am_new G _) _) _).1 G.2.2 _ b = _
        rw [am_r_ne n0]
        exact (am_new_ne (G := am_new (am_new G _) _) n2).2.trans ((am_new_ne (G := am_new G _) n1).2.trans (am_new_ne n0).2)
      · exact (am_new_ne (G := am_new (am_new G _) _) n2).1.trans ((am_new_ne (G := am_new G _) n1).1.trans (am_new_ne n0).1)
    · rcases (show b = G.2.2 ∨ b = G.2.2 + 1 ∨ b = G.2.2 + 2 by omega) with rfl | rfl | rfl
      · refine ⟨7, 2, ?_, by decide⟩
        exact (am_new_ne (G := am_new (am_new G _) _) (show G.2.2 ≠ G.2.2 + 2 by omega)).1.trans ((am_new_ne (G := am_new G _) (show G.2.2 ≠ G.2.2 + 1 by omega)).1.trans am_new_at)
      · refine ⟨0, x.toNatClampNeg, ?_, by decide⟩
        exact (am_new_ne (G := am_new (am_new G _) _) (show G.2.2 + 1 ≠ G.2.2 + 2 by omega)).1.trans (am_new_at (G := am_new G _))
      · exact ⟨0, x.toNatClampNeg, am_new_at (G := am_new (am_new G _) _), by decide⟩
    · rcases (show b = G.2.2 ∨ b = G.2.2 + 1 ∨ b = G.2.2 + 2 by omega) with rfl | rfl | rfl
      · have e1 : (am_new (am_new (am_new G (.inr (7, 2))) (.inr (0, x.toNatClampNeg))) (.inr (0, x.toNatClampNeg))).2.1 G.2.2 = .inr (7, 2) := (am_new_ne (G := am_new (am_new G _) _) (show G.2.2 ≠ G.2.2 + 2 by omega)).1.trans ((am_new_ne (G := am_new G _) (show G.2.2 ≠ G.2.2 + 1 by omega)).1.trans am_new_at)
        unfold am_cell
        dsimp only
        rw [e1, am_r_at]
        show F.heap[ad G.2.2]? = some (arrV (cy 7) 2 (fun j => va_rf (am_o ad (if j < 2 then G.2.2 + 1 + j else 0))))
        rw [show ad G.2.2 = H.size from had0 0, f2]
        refine congrArg (fun f => some (arrV (cy 7) 2 f)) (funext fun j => ?_)
        by_cases hj : j < 2
        · rw [if_pos hj, if_pos hj]
          unfold am_o
          rw [if_neg (by omega), show G.2.2 + 1 + j = G.2.2 + (1 + j) by omega, had0]
          rw [Nat.add_assoc]
        · rw [if_neg hj, if_neg hj]
          rfl
      · have e1 : (am_new (am_new (am_new G (.inr (7, 2))) (.inr (0, x.toNatClampNeg))) (.inr (0, x.toNatClampNeg))).2.1 (G.2.2 + 1) = .inr (0, x.toNatClampNeg) := (am_new_ne (G := am_new (am_new G _) _) (show G.2.2 + 1 ≠ G.2.2 + 2 by omega)).1.trans (am_new_at (G := am_new G _))
        unfold am_cell
        dsimp only
        rw [e1, am_r_ne (show G.2.2 + 1 ≠ G.2.2 + 2 by omega), am_r_at]
        show F.heap[ad (G.2.2 + 1)]? = some (arrV (cy 0) x.toNatClampNeg (fun _ => .int 0))
        rw [had0]
        exact fi 0 (by decide)
      · have e1 : (am_new (am_new (am_new G (.inr (7, 2))) (.inr (0, x.toNatClampNeg))) (.inr (0, x.toNatClampNeg))).2.1 (G.2.2 + 2) = .inr (0, x.toNatClampNeg) := am_new_at (G := am_new (am_new G _) _)
        unfold am_cell
        dsimp only
        rw [e1, am_r_at]
        show F.heap[ad (G.2.2 + 2)]? = some (arrV (cy 0) x.toNatClampNeg (fun _ => .int 0))
        rw [had0]
        exact fi 1 (by decide)
end AMS
