/-! ===== a method's contract out of the judgement ===== -/
theorem am_pad_len_nil (n : Nat) : am_pad n [] = List.replicate n .null := rfl
/-- the locals with which a method begins -/
theorem am_pad_has (ad : Nat → Nat) : ∀ (as : List Value) (n i : Nat), (am_pad n as).length = n → (∀ v ∈ as, am_nn v = true) → ((lg_sl (as.map (am_tv ad))).length ≤ n ∧ ∀ j v, (am_pad n as)[j]? = some v → am_nn v = true → (i + j, am_tv ad v) ∈ lv_args i (as.map (am_tv ad)))
  | [], n, i, _, _ => by
    refine ⟨Nat.zero_le _, fun j v h hn => ?_⟩
    rw [am_pad_len_nil] at h
    have := List.eq_of_mem_replicate (List.mem_of_getElem? h)
    subst this
    cases hn
  | w :: as, n, i, hl, hn => by
    have hn' : ∀ v ∈ as, am_nn v = true := fun v h => hn v (List.mem_cons_of_mem _ h)
    have one : (am_tv ad w).category = 1 → am_pad n (w :: as) = w :: am_pad (n - 1) as → ((lg_sl ((w :: as).map (am_tv ad))).length ≤ n ∧ ∀ j v, (am_pad n (w :: as))[j]? = some v → am_nn v = true → (i + j, am_tv ad v) ∈ lv_args i ((w :: as).map (am_tv ad))) := by
      intro hc e
      rw [e] at hl ⊢
      rw [List.length_cons] at hl
      have ih := am_pad_has ad as (n - 1) (i + 1) (by omega) hn'
      refine ⟨?_, fun j v hj hv => ?_⟩
      · rw [List.map_cons]
        have e2 : lg_sl (am_tv ad w :: as.map (am_tv ad)) = Slot.val (am_tv ad w) :: lg_sl (as.map (am_tv ad)) := by
          simp [lg_sl, hc]
        rw [e2, List.length_cons]
        have := ih.1
        omega
      · rw [List.map_cons]
        show _ ∈ (i, am_tv ad w) :: lv_args (if (am_tv ad w).category = 2 then i + 2 else i + 1) (as.map (am_tv ad))
        rw [if_neg (by rw [hc]; decide)]
        cases j with
        | zero =>
          rw [List.getElem?_cons_zero] at hj
          cases hj
          exact List.mem_cons_self
        | succ j =>
          rw [List.getElem?_cons_succ] at hj
          have := ih.2 j v hj hv
          rw [show i + 1 + j = i + (j + 1) by omega] at this
          exact List.mem_cons_of_mem _ this
    have two : (am_tv ad w).category = 2 → am_pad n (w :: as) = w :: .null :: am_pad (n - 2) as → ((lg_sl ((w :: as).map (am_tv ad))).length ≤ n ∧ ∀ j v, (am_pad n (w :: as))[j]? = some v → am_nn v = true → (i + j, am_tv ad v) ∈ lv_args i ((w :: as).map (am_tv ad))) := by
      intro hc e
      rw [e] at hl ⊢
      rw [List.length_cons, List.length_cons] at hl
      have ih := am_pad_has ad as (n - 2) (i + 2) (by omega) hn'
      refine ⟨?_, fun j v hj hv => ?_⟩
      · rw [List.map_cons]
        have e2 : lg_sl (am_tv ad w :: as.map (am_tv ad)) = Slot.val (am_tv ad w) :: Slot.second :: lg_sl (as.map (am_tv ad)) := by
          simp [lg_sl, hc]
        rw [e2, List.length_cons, List.length_cons]
        have := ih.1
        omega
      · rw [List.map_cons]
        show _ ∈ (i, am_tv ad w) :: lv_args (if (am_tv ad w).category = 2 then i + 2 else i + 1) (as.map (am_tv ad))
        rw [if_pos hc]
        match j with
        | 0 =>
          rw [List.getElem?_cons_zero] at hj
          cases hj
          exact List.mem_cons_self
        | 1 =>
          rw [List.getElem?_cons_succ, List.getElem?_cons_zero] at hj
          cases hj
          cases hv
        | j + 2 =>
          rw [List.getElem?_cons_succ, List.getElem?_cons_succ] at hj
          have := ih.2 j v hj hv
          rw [show i + 2 + j = i + (j + 2) by omega] at this
          exact List.mem_cons_of_mem _ this
    cases w with
    | int x => exact one rfl rfl
    | float x => exact one rfl rfl
    | long x => exact two rfl rfl
    | double x => exact two rfl rfl
    | ref x => exact one (am_tvc ad rfl) rfl
    | null => exact absurd (hn _ List.mem_cons_self) (by decide)
    | _ => exact one rfl rfl
section AMS
variable {ad : Nat → Nat} {cy : Nat → ClassId} {D : va_G} {base Lx : Nat} {xs : Nat → Int32} {E : am_E} {p : Program} {l : Launch} {v : Env} {R : Room} {s : State} {m : MethodId} {args : Array Value} {below : List Frame} {meth : Method} {c : Code} {Q : am_Q}
theorem am_end {ls : List Value} {I : am_I} {L : am_L} {G : am_G} {H : Heap} {locs : List Loc} {lsv : Array Slot} (hi : am_In ad cy D base Lx xs E s ls I L G H locs lsv) {r : Option Value} (hQ : Q r I L G) : ∀ t : State, t.heap = H → am_Qc ad cy D base Lx xs Q args s (.returned (r.map (am_tv ad))) t := by
  intro t ht
  obtain ⟨i1, i2, i3, i4, i5, i6, i7⟩ := hi
  exact ⟨r, I, L, G, rfl, hQ, by rw [ht]; exact i1, i2, by rw [ht]; exact i3, i5, i6, i4.F ht⟩
theorem am_s9 (cx : am_Cx ad cy D base Lx xs E p R s m args meth c) (hr : meth.sig.returnType = am_ret E) (hlocks : meth.locks = false) : am_r9 E Q (am_Xs ad cy D base Lx xs E p l v R s m args below meth c (MQ below (am_Qc ad cy D base Lx xs Q) args s (am_mc E) (am_ms E) (fun q => base ≤ q))) := by
  obtain ⟨hx, hb, hml, hown, hts, hin, ho, hK, had, hbs, hN, hX, hX1, hf, hlo, hc, hs⟩ := cx
  refine ⟨?_, ?_, ?_, ?_, ?_⟩
  · intro pc ls I L G k n a b v x h hret hk hn hQ H locs lsv hi
    refine W.widen hk hn ?_
    exact W.iret (v := x) hx hb (hr.trans hret) (fun t ht hW => am_end hi hQ t ht) hi.2.2.2.1.2.2 (am_dg ho h) hlocks
  · intro pc ls I L G k n a b v x h hret hx01 hk hn hQ H locs lsv hi
    refine W.widen hk hn ?_
    exact W.zret (v := x) (ty := .boolean) hx hb (hr.trans hret) (by rcases hx01 with rfl | rfl <;> decide) (fun t ht hW => am_end hi hQ t ht) hi.2.2.2.1.2.2 (am_dg ho h) hlocks
  · intro pc ls I L G k n a b v x h hret hk hn hQ H locs lsv hi
    refine W.widen hk hn ?_
    exact W.lret (v := x) hx hb (hr.trans hret) (fun t ht hW => am_end hi hQ t ht) hi.2.2.2.1.2.2 (am_dg ho h) hlocks
  · intro pc ls I L G k n a b v x rt h hret hrt hk hn hQ H locs lsv hi
    refine W.widen hk hn ?_
    exact W.aret (v := am_tv ad (.ref x)) hx hb (hr.trans hret) hrt (by
      show va_rf (am_o ad x) = .null ∨ ∃ a, va_rf (am_o ad x) = .ref a
      cases am_o ad x with
      | none => exact Or.inl rfl
      | some y => exact Or.inr ⟨y, rfl⟩) (fun t ht hW => am_end hi hQ t ht) hi.2.2.2.1.2.2 (am_dg ho h) hlocks
  · intro pc ls I L G k n a b v h hret hk hn hQ H locs lsv hi
    refine W.widen hk hn ?_
    exact W.vret hx hb (hr.trans hret) (fun t ht hW => am_end hi hQ t ht) hi.2.2.2.1.2.2 (am_dg ho h) hlocks
end AMS
theorem am_entry {ad : Nat → Nat} {as : List Value} {n : Nat} (h : (am_pad n as).length = n) (hn : as.all am_nn = true) : lv_has ((lg_sl (as.map (am_tv ad)) ++ List.replicate (n - (lg_sl (as.map (am_tv ad))).length) Slot.unset).toArray) n (am_as ad (am_pad n as)) := by
  obtain ⟨h1, h2⟩ := am_pad_has ad as n 0 h (List.all_eq_true.mp hn)
  refine am_has_sub (lv_entry (as.map (am_tv ad)) h1) (fun q hq => ?_)
  obtain ⟨w, g1, g2, g3⟩ := am_as_mem.mp hq
  have := h2 q.1 w g1 g2
  rw [Nat.zero_add, ← g3] at this
  exact this
/-- EVERY METHOD KEEPS WHAT THE JUDGEMENT SAYS OF IT -/
theorem am_mt (ad : Nat → Nat) (cy : Nat → ClassId) (D : va_G) (base Lx : Nat) (xs : Nat → Int32) (l : Launch) : ∀ d, am_Mt ad cy D base Lx xs l d
  | 0 => fun _ _ _ _ _ _ _ _ h => absurd h id
  | d + 1 => by
    intro i ec as I L G Q hec hrun
    obtain ⟨ec', h1, ⟨h2, h2'⟩, h3⟩ := hrun
    cases hec.symm.trans h1
    obtain ⟨o1, o2, o3, o4, ⟨pn, o5, o6⟩, o7, o8, o9, o10, pp, o11⟩ := am_of hec
    refine ⟨{ frames := d + 4, cells := am_mc ec, slots := am_ms ec, locals := 60 * (d + 2) }, rfl, rfl, Nat.le_refl _, Nat.le_refl _, ?_⟩
    refine va_MetF (cc := ec.2.1) (maxL := am_maxL ec) (ret := am_ret ec) o7 rfl ?_
    intro p e s m args below meth c s₁ B hml hv
    obtain ⟨rfl, b1, b2, b3, b4, b5, b6, b7, b8, b9, b10, b11, b12⟩ := hv
    have cx : am_Cx ad cy D base Lx xs ec p (headSpec (am_ws ec) { frames := d + 4, cells := am_mc ec, slots := am_ms ec, locals := 60 * (d + 2) }).room s m (as.map (am_tv ad)).toArray meth c :=
      ⟨B.exec, B.bytes, hml, by rw [← o4]; exact findClass_of_methodNamed B.named, fun w h => atoms_spec (ws := am_ws ec) B.pre w (List.mem_cons_of_mem _ h), fun h => (name_of_methodNamed B.named B.method).1.trans h, o1, b4, b11, b10, b5, b6, b7, by show 1 ≤ d + 4; omega, by show 60 ≤ 60 * (d + 2); omega, rfl, rfl⟩
    have key := h3 _ (am_s1 (l := l) (v := e) (below := below) (QW := MQ below (am_Qc ad cy D base Lx xs Q) (as.map (am_tv ad)).toArray s (am_mc ec) (am_ms ec) (fun q => base ≤ q)) cx) (am_s2 cx) (am_s3 cx) (am_s4 cx) (am_s5 cx) (am_s6 cx) (am_s7 cx) (am_s8 cx b12 (List.all_eq_true.mp am_nk_ok ec (List.mem_of_getElem? hec)) (am_mt ad cy D base Lx xs l d) (Nat.le_refl _) (Nat.le_refl _)) (am_s9 cx B.returns B.notSynchronized)
    rw [lg_entry_eq]
    exact key s.heap [] _ ⟨b1, b2, b3, va_S.rf, b8, b9, am_entry h2 h2', h2⟩
