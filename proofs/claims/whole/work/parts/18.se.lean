/-- the methods, called at most d deep -/
def am_run : Nat → am_C
  | 0 => fun _ _ _ _ _ _ => False
  | d + 1 => fun i as I L G Q => ∃ ec, am_all[i]? = some ec ∧ ((am_pad (am_maxL ec) as).length = am_maxL ec ∧ as.all am_nn = true) ∧ am_W am_all (am_run d) ec Q 0 (am_pad (am_maxL ec) as) [] I L G 0 0
theorem am_run.mono {d i : Nat} {as : List Value} {I : am_I} {L : am_L} {G : am_G} {Q Q' : am_Q} (hq : ∀ r I L G, Q r I L G → Q' r I L G) (h : am_run d i as I L G Q) : am_run d i as I L G Q' := by
  cases d with
  | zero => exact h
  | succ d =>
    obtain ⟨ec, h1, h2, h3⟩ := h
    exact ⟨ec, h1, h2, h3.mono hq⟩
/-- what holds where a method begins -/
def am_B (ad : Nat → Nat) (cy : Nat → ClassId) (D : va_G) (base Lx : Nat) (xs : Nat → Int32) (I : am_I) (L : am_L) (G : am_G) (U : State) : Prop :=
  U.heap.size + 12 = base + G.2.2 ∧ 12 ≤ G.2.2 ∧ am_hp D ad cy I L G U.heap ∧ va_K D am_cl (am_tys cy) U ∧ am_Nx ad U ∧ va_X (ad 1) Lx xs U U.heap ∧ ad 1 < base ∧ am_wf Lx G ∧ (∀ j, j < Lx → I 1 j = xs j) ∧ base ≤ U.heap.size ∧ (∀ i, ad (i + 12) = base + i) ∧ am_SK ad base U U.heap
/-- and where it ends -/
def am_Qc (ad : Nat → Nat) (cy : Nat → ClassId) (D : va_G) (base Lx : Nat) (xs : Nat → Int32) (Q : am_Q) : Array Value → State → Outcome → State → Prop := fun _ st oc t =>
  ∃ r I L G, oc = .returned (r.map (am_tv ad)) ∧ Q r I L G ∧ t.heap.size + 12 = base + G.2.2 ∧ 12 ≤ G.2.2 ∧ am_hp D ad cy I L G t.heap ∧ am_wf Lx G ∧ (∀ j, j < Lx → I 1 j = xs j) ∧ va_F (fun q : Nat => base ≤ q) st t
def am_ws (e : am_E) : List Cond := Cond.code e.1 e.2.1 (am_maxL e) (am_ret e) :: lw_g
/-- a method's contract, with a room for calls d deep -/
def am_Mt (ad : Nat → Nat) (cy : Nat → ClassId) (D : va_G) (base Lx : Nat) (xs : Nat → Int32) (l : Launch) (d : Nat) : Prop :=
  ∀ i ec as I L G Q, am_all[i]? = some ec → am_run d i as I L G Q → ∃ rm : Room, rm.cells = am_mc ec ∧ rm.slots = am_ms ec ∧ rm.frames ≤ d + 3 ∧ rm.locals ≤ 60 * (d + 1) ∧
    Met l ec.1 (am_ws ec) rm (va_Pc (as.map (am_tv ad)) (am_B ad cy D base Lx xs I L G)) (am_Qc ad cy D base Lx xs Q) (am_mc ec) (am_ms ec) (fun q => base ≤ q)
theorem am_mlc4 {r : Nat × Nat × Nat × Int} (h : r.2.2.2 = 4) : am_mlc r = .methodLinkNest (am_cn r.1) r.2.1 (am_nam r.2.2.1) "LastLoads" := if_pos h
theorem am_aoa_moved {u U : State} (hvm : u.vm.Alike U.vm) (h : (Cond.arrayOver (.array .int)).before #[] u = true) : (Cond.arrayOver (.array .int)).before #[] U = true := by
  have h1 : (Cond.arrayOver (.array .int)).before #[] (u.setVm U.vm) = true := by rw [Cond.arrayOver_setVmC hvm]; exact h
  simp only [Cond.before, Cond.holds, Cond.value, State.vm_setVm] at h1 ⊢
  exact h1
theorem am_Nx.warm {ad : Nat → Nat} {s U : State} (hW : s.WarmedH U.vm) (h : am_Nx ad s) : am_Nx ad U := by
  refine ⟨fun r q hq h4 => ?_, fun c hc h1 => (h.2.1 c hc h1).moved hW.alike, am_aoa_moved hW.alike h.2.2.1, fun r q hq => (h.2.2.2 r q hq).warm hW⟩
  have h9 := h.1 r q hq h4
  rw [am_mlc4 h4] at h9 ⊢
  exact h9.warmM hW
theorem am_Nx.same {ad : Nat → Nat} {s U : State} (hv : s.vm = U.vm) (h : am_Nx ad s) : am_Nx ad U := by
  have ha : s.vm.Alike U.vm := by rw [hv]; exact Vm.Alike.refl _
  refine ⟨fun r q hq h4 => ?_, fun c hc h1 => (h.2.1 c hc h1).moved ha, am_aoa_moved ha h.2.2.1, fun r q hq => (h.2.2.2 r q hq).same hv.symm⟩
  have h9 := h.1 r q hq h4
  rw [am_mlc4 h4] at h9 ⊢
  exact va_Nw.same rfl hv h9
theorem am_blind {ad : Nat → Nat} {cy : Nat → ClassId} {D : va_G} {base Lx : Nat} {xs : Nat → Int32} {I : am_I} {L : am_L} {G : am_G} {as : List Value} : FrameBlind (va_Pc as (am_B ad cy D base Lx xs I L G)) := by
  intro a U g mk ⟨e, h1, h2, h3, h4, h5, h6, h7, h8, h9, h10, h11, h12⟩
  exact ⟨e, h1, h2, h3, va_K.moved (u := U) (U := U.calling g mk a) (Vm.Alike.refl U.vm) h4, am_Nx.same (s := U) (U := U.calling g mk a) rfl h5, va_X.moved (u := U) (U := U.calling g mk a) (Vm.Alike.refl U.vm) h6, h7, h8, h9, h10, h11, am_SK.moved (u := U) (U := U.calling g mk a) (Vm.Alike.refl U.vm) h12⟩
theorem am_cats (ad : Nat → Nat) : ∀ st : List Value, ((st.map (am_tv ad)).map fun v => v.category).sum = (st.map fun v => v.category).sum
  | [] => rfl
  | v :: st => by
    have e : (am_tv ad v).category = v.category := by
      cases v with
      | ref a =>
        show (va_rf (am_o ad a)).category = 1
        unfold am_o
        by_cases h0 : a = 0 <;> simp [h0, va_rf, Value.category]
      | _ => rfl
    simp only [List.map_cons, List.sum_cons, am_cats ad st, e]
theorem am_oi1 : Cond.instanceMethod objectInit ∈ lw_g := lw_g_at (i := 123) (by decide +kernel) rfl
theorem am_oi2 : Cond.code objectInit ⟨#[0xb1]⟩ 1 none ∈ lw_g := lw_g_at (i := 124) (by decide +kernel) rfl
theorem am_cn1 : Cond.native arraycopyName ∈ lw_g := lw_g_at (i := 675) (by decide +kernel) rfl
theorem am_cn2 : Cond.static arraycopyName ∈ lw_g := lw_g_at (i := 674) (by decide +kernel) rfl
theorem am_cn3 : Cond.initialized "java/lang/System" ∈ lw_g := lw_g_at (i := 113) (by decide +kernel) rfl
section AMS
variable {ad : Nat → Nat} {cy : Nat → ClassId} {D : va_G} {base Lx : Nat} {xs : Nat → Int32} {E : am_E} {p : Program} {l : Launch} {v : Env} {R : Room} {s : State} {m : MethodId} {args : Array Value} {below : List Frame} {meth : Method} {c : Code} {QW : State → Prop}
/-- behind a call -/
theorem am_cont {pc : Nat} {ls rest st : List Value} {I : am_I} {L : am_L} {G : am_G} {k n mc ms : Nat} {Q' : am_Q} {a : Array Value} {H : Heap} {locs : List Loc} {lsv : Array Slot} (had : ∀ i, ad (i + 12) = base + i) (hi : am_In ad cy D base Lx xs E s ls I L G H locs lsv)
    (hr : va_Run p l v R s m args below meth c H locs k n mc ms (F0 m pc lsv (st.map (am_tv ad))) (rest.map (am_tv ad)) (am_Qc ad cy D base Lx xs Q' a) (fun q : Nat => base ≤ q))
    (kk : ∀ r I' L' G', Q' r I' L' G' → am_Xs ad cy D base Lx xs E p l v R s m args below meth c QW (pc + 3) ls (r.toList ++ rest) I' L' G' (k + mc) (n + ms)) : W p l v R s m args below meth c H locs k n QW (F0 m pc lsv (st.map (am_tv ad))) := by
  intro T hT X
  obtain ⟨w, st₀, t, T', L', h0, X', hL, e1, e2, ⟨r, I', L2, G', hv, hQ, z1, z2, z3, z4, z5, z6, z7⟩, stp⟩ := hr T hT X
  have hv : w = r.map (am_tv ad) := by cases hv; rfl
  subst hv
  rw [h0] at z6 z7
  obtain ⟨i1, i2, i3, i4, i5, i6, i7⟩ := hi
  have key := kk r I' L2 G' hQ T'.heap (locs ++ L') lsv ⟨by rw [e1]; exact z1, z2, by rw [e1]; exact z3, ⟨Nat.le_trans i4.1 (by rw [e1]; exact z6), fun q q1 q2 => by rw [e1, z7 q (Nat.lt_of_lt_of_le q1 i4.1) q2]; exact i4.2.1 q q1 q2, fun q hq => by
      rcases List.mem_append.mp hq with h | h
      · exact i4.2.2 q h
      · exact hL q h⟩, z4, z5, i7⟩
  have e3 : (r.toList ++ rest).map (am_tv ad) = (r.map (am_tv ad)).toList ++ rest.map (am_tv ad) := by
    cases r <;> simp
  rw [e3] at key
  obtain ⟨t2, a1, b1⟩ := key T' rfl X'
  exact ⟨t2, stp t2 a1, b1⟩
/-- what a called method finds -/
theorem am_pre {ls : List Value} {I : am_I} {L : am_L} {G : am_G} {H : Heap} {locs : List Loc} {lsv : Array Slot} (cx : am_Cx ad cy D base Lx xs E p R s m args meth c) (hSK : am_SK ad base s s.heap) (hi : am_In ad cy D base Lx xs E s ls I L G H locs lsv) : ∀ U : State, U.heap = H → s.WarmedH U.vm → am_B ad cy D base Lx xs I L G U := by
  obtain ⟨hx, hb, hml, hown, hts, hin, ho, hK, had, hbs, hN, hX, hX1, hf, hlo, hc, hs⟩ := cx
  obtain ⟨i1, i2, i3, i4, i5, i6, i7⟩ := hi
  intro U hU hW
  have hXH : va_X (ad 1) Lx xs s H := hX.kept (i4.2.1 _ (Nat.lt_of_lt_of_le hX1 hbs) (Nat.not_le.mpr hX1))
  refine ⟨by rw [hU]; exact i1, i2, by rw [hU]; exact i3, hK.moved hW.alike, hN.warm hW, by rw [hU]; exact hXH.moved hW.alike, hX1, i5, i6, by rw [hU]; exact Nat.le_trans hbs i4.1, had, by rw [hU]; exact (hSK.kept i4.2.1).moved hW.alike⟩
/-- the rows of a call whose method has a contract -/
theorem am_s8 (cx : am_Cx ad cy D base Lx xs E p R s m args meth c) (hSK : am_SK ad base s s.heap) (hnk : am_nk E = true) {d : Nat} (hM : am_Mt ad cy D base Lx xs l d) (hRf : d + 4 ≤ R.frames) (hRl : 60 * (d + 2) ≤ R.locals) :
    am_r8 am_all (am_run d) E (am_Xs ad cy D base Lx xs E p l v R s m args below meth c QW) := by
  have cx0 := cx
  obtain ⟨hx, hb, hml, hown, hts, hin, ho, hK, had, hbs, hN, hX, hX1, hf, hlo, hc, hs⟩ := cx
  have nk : ∀ {pc : Nat} {x : Instr × Nat × Nat × Nat × Int}, am_at E pc = some x → ∀ {q : am_Row → Bool}, am_nk E = (am_rows E).all q → q (pc, x) = true := fun h q hq => List.all_eq_true.mp (hq ▸ hnk) _ (am_at_mem h)
  have gws : ∀ {i : Nat} {ec : am_E}, am_all[i]? = some ec → GoodIn lw_g (am_ws ec) := by
    intro i ec he w hw
    rcases List.mem_cons.mp hw with rfl | h
    · exact lw_g_good _ (am_of he).2.1
    · exact lw_g_good _ h
  refine ⟨?_, ?_, ?_, ?_, ?_, ?_, ?_⟩
  · intro pc ls st I L G k n idx i na x as rest ec Q' h hP hna hst hsh hcat hk1 hk2 hC kk H locs lsv hi
    subst hst
    obtain ⟨q, hq⟩ := am_iv ho h (by decide)
    have hco := List.all_eq_true.mp am_co_ok _ hq
    obtain ⟨o1, o2, o3, o4, ⟨pn, o5, o6⟩, o7, o8, o9, o10, pp, o11⟩ := am_of hP
    obtain ⟨rm, r1, r2, r3, r4, hMet⟩ := hM i ec _ I L G Q' hP hC
    unfold am_co at hco
    simp only [o11] at hco
    simp only [if_pos, Bool.and_eq_true, decide_eq_true_eq, o10] at hco
    have hnk1 := nk h (q := _) rfl
    simp only [Bool.or_eq_true, decide_eq_true_eq] at hnk1
    have hpn : pn = na := by
      rcases hnk1 with z | z
      · exact absurd z (by decide)
      · exact Option.some.inj (o5.symm.trans z)
    subst hpn
    obtain ⟨g1, g2, g3, g4⟩ := am_obj hi hsh
    have hl := hts _ (lw_g_of (am_mem_ml hq) rfl)
    have e1 : am_mlc (am_own E, idx, i, 0) = .methodLink (am_cn (am_own E)) idx ec.1 := by
      show Cond.methodLink _ _ (am_nam i) = _
      rw [o10]
    rw [e1] at hl
    refine am_cont had hi (mc := am_mc ec) (ms := am_ms ec) (rest := rest) (a := (Value.ref (ad x) :: as.map (am_tv ad)).toArray) (va_runV (C := am_cn (am_own ec)) (b := ad x) (As := as.map (am_tv ad)) (rest := rest.map (am_tv ad)) (nL := am_maxL E) (bytes := ec.2.1) (maxL := am_maxL ec) (ret := am_ret ec) (n := pn) (index := idx) (own := am_cn (am_own E)) ⟨hx, hb, hml, hown, hts⟩ hMet ⟨callB_of pn hts (gws hP) rfl r1 r2 (hts _ o3) hl ⟨o8.1, o8.2, o6⟩ ⟨by omega, by omega⟩, hts _ (lw_g_at hco.1 rfl), by rw [← o4]; exact hts _ (lw_g_at hco.2 rfl)⟩ ⟨am_blind, va_recv hK (am_one g4) (am_cl_get g3) (q0 := 0) rfl, fun U hU hW => ⟨by rw [List.map_cons, am_tvr ad g1], am_pre cx0 hSK hi U hU hW⟩⟩ rfl (by rw [List.length_map]; exact hna) hi.2.2.2.2.2.2.1.1 (by rw [List.map_append, List.map_cons, am_tvr ad g1, List.map_reverse]) (lv_room (by rw [am_cats]; exact hcat)) (am_dg ho h) ⟨by rw [hc]; exact hk1, by rw [hs]; exact hk2⟩) kk
  · intro pc ls st I L G k n idx i na x as rest ec Q' kd h hkd hP hna hst hcat hsh hk1 hk2 hC kk H locs lsv hi
    subst hst
    obtain ⟨q, hq⟩ := am_is ho h
    have hco := List.all_eq_true.mp am_co_ok _ hq
    obtain ⟨o1, o2, o3, o4, ⟨pn, o5, o6⟩, o7, o8, o9, o10, pp, o11⟩ := am_of hP
    obtain ⟨rm, r1, r2, r3, r4, hMet⟩ := hM i ec _ I L G Q' hP hC
    have hd : am_all.getD i am_nil = ec := by rw [List.getD_eq_getElem?_getD, hP]; rfl
    unfold am_co at hco
    simp only [o11] at hco
    have hk0 : ¬ kd = 0 := by rcases hkd with rfl | rfl <;> decide
    simp only [if_neg hk0, if_pos hkd, Bool.and_eq_true, decide_eq_true_eq, o10, hd] at hco
    have hnk1 := nk h (q := _) rfl
    simp only [Bool.or_eq_true, decide_eq_true_eq] at hnk1
    have hpn : pn = na := by
      rcases hnk1 with z | z
      · rcases hkd with rfl | rfl <;> exact absurd z (by decide)
      · exact Option.some.inj (o5.symm.trans z)
    subst hpn
    obtain ⟨g1, g2, g3, g4⟩ := am_obj hi hsh
    have hret := hco.2.2
    have ews : am_ws ec = Cond.code ec.1 ec.2.1 (am_maxL ec) none :: lw_g := by
      unfold am_ws
      rw [hret]
    rcases hkd with rfl | rfl
    · have hl := hts _ (lw_g_of (am_mem_ml hq) rfl)
      have e1 : am_mlc (am_own E, idx, i, 1) = .methodLink (am_cn (am_own E)) idx ec.1 := by
        show Cond.methodLink _ _ (am_nam i) = _
        rw [o10]
      rw [e1] at hl
      exact am_cont had hi (mc := am_mc ec) (ms := am_ms ec) (rest := rest) (a := (Value.ref (ad x) :: as.map (am_tv ad)).toArray) (va_runI (b := ad x) (As := as.map (am_tv ad)) (rest := rest.map (am_tv ad)) (nL := am_maxL E) (bytes := ec.2.1) (maxL := am_maxL ec) (n := pn) (index := idx) (own := am_cn (am_own E)) ⟨hx, hb, hml, hown, hts⟩ hMet ⟨callB_of pn hts (gws hP) ews r1 r2 (hts _ o3) hl ⟨o8.1, o8.2, o6⟩ ⟨by omega, by omega⟩, hco.2.1, hts _ (lw_g_at hco.1 rfl)⟩ ⟨am_blind, fun U hU hW => ⟨by rw [List.map_cons, am_tvr ad g1], am_pre cx0 hSK hi U hU hW⟩⟩ rfl (by rw [List.length_map]; exact hna) hi.2.2.2.2.2.2.1.1 (by rw [List.map_append, List.map_cons, am_tvr ad g1, List.map_reverse]) (lv_room (by rw [am_cats]; exact hcat)) (am_dg ho h) ⟨by rw [hc]; exact hk1, by rw [hs]; exact hk2⟩) kk
    · have hl := hN.1 _ _ hq rfl
      rw [am_mlc4 rfl] at hl
      have e1 : am_nam i = ec.1 := o10
      simp only [e1] at hl
      exact am_cont had hi (mc := am_mc ec) (ms := am_ms ec) (rest := rest) (a := (Value.ref (ad x) :: as.map (am_tv ad)).toArray) (va_runIN (b := ad x) (As := as.map (am_tv ad)) (rest := rest.map (am_tv ad)) (nL := am_maxL E) (bytes := ec.2.1) (maxL := am_maxL ec) (n := pn) (index := idx) (own := am_cn (am_own E)) (host := "LastLoads") ⟨hx, hb, hml, hown, hts⟩ hMet ⟨va_cnB pn hts (gws hP) ews r1 r2 hl (hts _ o3) ⟨o8.1, o8.2, o6⟩ ⟨by omega, by omega⟩, hco.2.1, hts _ (lw_g_at hco.1 rfl)⟩ ⟨am_blind, fun U hU hW => ⟨by rw [List.map_cons, am_tvr ad g1], am_pre cx0 hSK hi U hU hW⟩⟩ rfl (by rw [List.length_map]; exact hna) hi.2.2.2.2.2.2.1.1 (by rw [List.map_append, List.map_cons, am_tvr ad g1, List.map_reverse]) (lv_room (by rw [am_cats]; exact hcat)) (am_dg ho h) ⟨by rw [hc]; exact hk1, by rw [hs]; exact hk2⟩) kk
  · intro pc ls st I L G k n idx i na as rest ec Q' h hP hna hst hcat hk1 hk2 hC kk H locs lsv hi
    subst hst
    obtain ⟨q, hq⟩ := am_it ho h
    have hco := List.all_eq_true.mp am_co_ok _ hq
    obtain ⟨o1, o2, o3, o4, ⟨pn, o5, o6⟩, o7, o8, o9, o10, pp, o11⟩ := am_of hP
    obtain ⟨rm, r1, r2, r3, r4, hMet⟩ := hM i ec _ I L G Q' hP hC
    unfold am_co at hco
    simp only [o11] at hco
    rw [if_neg (by decide), if_neg (by decide), if_pos trivial] at hco
    simp only [decide_eq_true_eq, o10] at hco
    have hnk1 := nk h (q := _) rfl
    simp only [Bool.or_eq_true, decide_eq_true_eq] at hnk1
    have hpn : pn = na := by
      rcases hnk1 with z | z
      · exact absurd z (by decide)
      · exact Option.some.inj (o5.symm.trans z)
    subst hpn
    have hl := hts _ (lw_g_of (am_mem_ml hq) rfl)
    have e1 : am_mlc (am_own E, idx, i, 2) = .methodLink (am_cn (am_own E)) idx ec.1 := by
      show Cond.methodLink _ _ (am_nam i) = _
      rw [o10]
    rw [e1] at hl
    exact am_cont had hi (mc := am_mc ec) (ms := am_ms ec) (rest := rest) (a := (as.map (am_tv ad)).toArray) (va_runS (As := as.map (am_tv ad)) (rest := rest.map (am_tv ad)) (nL := am_maxL E) (bytes := ec.2.1) (maxL := am_maxL ec) (ret := am_ret ec) (n := pn) (index := idx) (own := am_cn (am_own E)) ⟨hx, hb, hml, hown, hts⟩ hMet ⟨callB_of pn hts (gws hP) rfl r1 r2 (hts _ o3) hl ⟨o8.1, o8.2, o6⟩ ⟨by omega, by omega⟩, hts _ (lw_g_at hco rfl)⟩ ⟨am_blind, fun U hU hW => ⟨rfl, am_pre cx0 hSK hi U hU hW⟩⟩ rfl (by rw [List.length_map]; exact hna) hi.2.2.2.2.2.2.1.1 (by rw [List.map_append, List.map_reverse]) (lv_room (by rw [am_cats]; exact hcat)) (am_dg ho h) ⟨by rw [hc]; exact hk1, by rw [hs]; exact hk2⟩) kk
  · intro pc ls st I L G k n idx a b x cc h hsh hcat kk H locs lsv hi
    obtain ⟨q, hq⟩ := am_is ho h
    obtain ⟨g1, g2, g3, g4⟩ := am_obj hi hsh
    have hl := hts _ (lw_g_of (am_mem_ml hq) rfl)
    rw [List.map_cons, am_tvr ad g1]
    refine W.objInit hx hb hown hl (hts _ am_oi1) (hts _ am_oi2) rfl (by rw [hml]; exact hi.2.2.2.2.2.2.1.1) rfl (am_dg ho h) hf ?_ (kk H locs lsv hi)
    have h9 := lv_room (m := m) (pc := pc) (ls := lsv) (rest := Value.ref (ad x) :: st.map (am_tv ad)) (st := st.map (am_tv ad)) (by rw [am_cats]; exact hcat)
    omega
  · intro pc ls st I L G k n idx a b x y N M sp dp m' h hsx hsy n1 n2 n3 n4 n5 hcat kk H locs lsv hi
    obtain ⟨q, hq⟩ := am_it ho h
    have hl := hts _ (lw_g_of (am_mem_ml hq) rfl)
    obtain ⟨x1, x2, x4⟩ := am_arr hi hsx (by omega)
    obtain ⟨y1, y2, y4⟩ := am_arr hi hsy (by omega)
    simp only [List.map_cons, am_tvr ad x1, am_tvr ad y1]
    have nn : ∀ z : Int32, ¬ z < 0 → z.toInt = (z.toNatClampNeg : Int) := by
      intro z hz
      have hz0 : (0 : Int) ≤ z.toInt := by
        have := Int32.not_lt.mp hz
        simpa using Int32.le_iff_toInt_le.mp this
      show z.toInt = ((z.toInt.toNat : Nat) : Int)
      omega
    intro T hT X
    have hc0 : H[ad x]? = some (arrV (cy 0) N (fun j => .int (I x j))) := x4
    have hc1 : H[ad y]? = some (arrV (cy 0) M (fun j => .int (I y j))) := y4
    obtain ⟨-, k0, hk0, cm0, hkk0⟩ := (hK.2 0 _ rfl).1 N (fun j => .int (I x j))
    obtain ⟨-, k1, hk1, cm1, hkk1⟩ := (hK.2 0 _ rfl).1 M (fun j => .int (I y j))
    obtain ⟨vm', X', step⟩ := X.arraycopy hx hown hl (hts _ am_cn1) (hts _ am_cn2) (hts _ am_cn3) (src := ad x) (dst := ad y) (cs := arrV (cy 0) N (fun j => .int (I x j))) (cd := arrV (cy 0) M (fun j => .int (I y j))) (srcPos := sp) (destPos := dp) (n := m') (by rw [hT]; exact hc0) (by rw [hT]; exact hc1)
      (fun _ h => by cases h) (fun _ h => by cases h) (fun h => by cases h) (fun h => by cases h) hk0 hk1 hkk0 hkk1 (by simp [refKind]) n1 n2 n3
      (by rw [nn sp n1, nn m' n3, arrV_size]; omega)
      (by rw [nn dp n2, nn m' n3, arrV_size]; omega)
      (fun vm₁ _ i hi => by
        have e : (arrV (cy 0) N (fun j => .int (I x j))).slots.getD (sp.toNatClampNeg + i) .null = .int (I x (sp.toNatClampNeg + i)) := by
          rw [Array.getD_eq_getD_getElem?, arrV_read _ _ (by omega)]
          rfl
        refine ⟨?_, ?_⟩
        · rw [e]; rfl
        · rw [e]; exact trivial)
      (g := F0 m pc lsv (.int m' :: .int dp :: .ref (ad y) :: .int sp :: .ref (ad x) :: st.map (am_tv ad))) rfl (by rw [hml]; exact hi.2.2.2.2.2.2.1.1) (rest := st.map (am_tv ad)) rfl (by rw [hb]; exact am_dg ho h) hf (by
        have h9 : ((st.map (am_tv ad)).map fun v => v.category).sum ≤ 8 := by rw [am_cats]; exact hcat
        have h8 : nativeFrameWords "java/lang/System" "arraycopy" 5 ≤ 30 := by decide
        show 2 * 0 + _ + _ ≤ _
        omega)
    have e1 : copied (arrV (cy 0) N (fun j => .int (I x j))) (arrV (cy 0) M (fun j => .int (I y j))) sp dp m' = arrV (cy 0) M (fun j => .int (va_cpy (I x) (I y) sp.toNatClampNeg dp.toNatClampNeg m'.toNatClampNeg j)) := va_copied (fun z => .int z) (cy 0) (cy 0) (I x) (I y) n4
    rw [e1] at X' step
    have hlt : ad y < H.size := (Array.getElem?_eq_some_iff.mp hc1).1
    have hheap : ((T.setVm vm').setCell (ad y) (arrV (cy 0) M (fun j => .int (va_cpy (I x) (I y) sp.toNatClampNeg dp.toNatClampNeg m'.toNatClampNeg j)))).heap = H.setIfInBounds (ad y) (arrV (cy 0) M (fun j => .int (va_cpy (I x) (I y) sp.toNatClampNeg dp.toNatClampNeg m'.toNatClampNeg j))) := by rw [← hT]; rfl
    have oq : ∀ q : Nat, q ≠ ad y → (H.setIfInBounds (ad y) (arrV (cy 0) M (fun j => .int (va_cpy (I x) (I y) sp.toNatClampNeg dp.toNatClampNeg m'.toNatClampNeg j))))[q]? = H[q]? := fun q hq => by simp [Array.getElem?_setIfInBounds, Ne.symm hq]
    obtain ⟨j1, j2, j3, j4, j5, j6, j7⟩ := hi
    obtain ⟨t, a1, b1⟩ := kk _ _ lsv ⟨by rw [Array.size_setIfInBounds]; exact j1, j2, am_hp_set had j3 y1 (by
        unfold am_cell
        rw [hsy, am_r_at]
        show (H.setIfInBounds (ad y) _)[ad y]? = some _
        simp [Array.getElem?_setIfInBounds, hlt]
        rfl) oq rfl (fun b hb => by unfold am_cell; rw [am_r_ne hb]), ⟨by rw [Array.size_setIfInBounds]; exact j4.1, fun q g1 g2 => by
        rw [oq q (fun e => g2 (by rw [e]; have := am_ad had y1; omega))]
        exact j4.2.1 q g1 g2, fun q hq => by
        rcases List.mem_append.mp hq with h | h
        · exact j4.2.2 q h
        · obtain ⟨z, -, hz⟩ := List.mem_map.mp h
          rw [← hz]
          show base ≤ ad y
          have := am_ad had y1
          omega⟩, j5, fun j hj => by rw [am_r_ne (show 1 ≠ y by omega)]; exact j6 j hj, j7⟩ _ hheap X'
    exact ⟨t, step t a1, b1⟩
  · intro pc ls st I L G k n idx a b x h hx2 hk1 hk2 hcat kk H locs lsv hi
    obtain ⟨q, hq⟩ := am_iv ho h (by decide)
    have hl : (Cond.methodLink (am_cn (am_own E)) idx ys_len).before args s = true := hts _ (lw_g_of (am_mem_ml hq) rfl)
    have e9 : am_tv ad (.ref x) = .ref (ad x) := by
      show va_rf (am_o ad x) = _
      unfold am_o
      rw [if_neg (by omega)]
      rfl
    rw [List.map_cons, e9]
    obtain ⟨⟨adV, hKs⟩, -, -⟩ := id hSK
    have hrc := vk_recv hKs (am_sby_get hx2).2.2 hi.2.2.2.1
    try dsimp only at hrc
    rw [show x - 2 + 2 = x by omega] at hrc
    exact am_conts (w := some (.int (nI (am_strs x).length))) (rest := st.map (am_tv ad)) (va_runV (C := "java/lang/String") (As := []) (bytes := prog_17_method_54_code) (maxL := 1) (ret := some .int) (n := 0) (index := idx) (own := am_cn (am_own E)) ⟨hx, hb, hml, hown, hts⟩ (ct_len l ad base x hx2) ⟨callB_of 0 hts (am_gw ks_len) rfl rfl rfl (hts _ is_str) hl (by decide +kernel) ⟨by show 1 + 1 ≤ _; omega, by show 8 + (1 + 11) + 20 ≤ _; omega⟩, hts _ ki_len.1, hts _ ki_len.2⟩ ⟨am_skb, hrc, fun U hU hW => ⟨rfl, by show am_SK ad base U U.heap; rw [hU]; exact (hSK.kept hi.2.2.2.1.2.1).moved hW.alike⟩⟩ rfl rfl hi.2.2.2.2.2.2.1.1 rfl (lv_room (by rw [am_cats]; exact hcat)) (am_dg ho h) ⟨by rw [hc]; exact hk1, by rw [hs]; exact hk2⟩) (kk H locs lsv hi)
  · intro pc ls st I L G k n idx a b x i h hx2 hk1 hk2 hin hcat kk H locs lsv hi
    obtain ⟨q, hq⟩ := am_iv ho h (by decide)
    have hl : (Cond.methodLink (am_cn (am_own E)) idx ys_chr).before args s = true := hts _ (lw_g_of (am_mem_ml hq) rfl)
    have e9 : am_tv ad (.ref x) = .ref (ad x) := by
      show va_rf (am_o ad x) = _
      unfold am_o
      rw [if_neg (by omega)]
      rfl
    rw [List.map_cons, List.map_cons, e9]
    obtain ⟨⟨adV, hKs⟩, -, -⟩ := id hSK
    have hrc := vk_recv hKs (am_sby_get hx2).2.2 hi.2.2.2.1
    try dsimp only at hrc
    rw [show x - 2 + 2 = x by omega] at hrc
    exact am_conts (w := some (.int ((am_strs x).getD i.toNatClampNeg 0))) (rest := st.map (am_tv ad)) (va_runV (C := "java/lang/String") (As := [.int i]) (bytes := prog_17_method_56_code) (maxL := 2) (ret := some .char) (n := 1) (index := idx) (own := am_cn (am_own E)) ⟨hx, hb, hml, hown, hts⟩ (ct_chr l ad base x hx2 i hin) ⟨callB_of 1 hts (am_gw ks_chr) rfl rfl rfl (hts _ is_str) hl (by decide +kernel) ⟨by show 3 + 1 ≤ _; omega, by show 8 + (2 + 11) + 64 ≤ _; omega⟩, hts _ ki_chr.1, hts _ ki_chr.2⟩ ⟨am_skb, hrc, fun U hU hW => ⟨rfl, by show am_SK ad base U U.heap; rw [hU]; exact (hSK.kept hi.2.2.2.1.2.1).moved hW.alike⟩⟩ rfl rfl hi.2.2.2.2.2.2.1.1 rfl (lv_room (by rw [am_cats]; exact hcat)) (am_dg ho h) ⟨by rw [hc]; exact hk1, by rw [hs]; exact hk2⟩) (kk H locs lsv hi)
end AMS
