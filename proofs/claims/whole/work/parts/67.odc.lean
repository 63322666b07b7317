/-! ===== orders of the class ===== -/
section ODC
variable {d Lx : Nat} {ρ : List (Nat × Nat)} {Q : am_Q} {Rs : List (List (Nat × List Nat))}
theorem tl_mem {j : Nat} (hj : j ≤ 6) : 52 + 6 * j ∈ rdl := by
  match j, hj with
  | 0, _ => decide
  | 1, _ => decide
  | 2, _ => decide
  | 3, _ => decide
  | 4, _ => decide
  | 5, _ => decide
  | 6, _ => decide
  | j + 7, h => omega
/-- the loads below l that wait, the least k of them -/
def wtL (f : Nat → Int32) (k : Nat) : Nat → List Nat
  | 0 => []
  | l + 1 => if (wtL f k l).length < k ∧ pWa f l then wtL f k l ++ [l] else wtL f k l
theorem wtL_p {f : Nat → Int32} {k : Nat} : ∀ l, (wtL f k l).length ≤ k ∧ (wtL f k l).length ≤ l ∧ ∀ x ∈ wtL f k l, x < l ∧ pWa f x
  | 0 => ⟨Nat.zero_le _, Nat.le_refl _, fun x hx => absurd hx (by simp [wtL])⟩
  | l + 1 => by
    obtain ⟨h1, h2, h3⟩ := wtL_p (f := f) (k := k) l
    unfold wtL
    split
    · next z =>
      refine ⟨by simp; omega, by simp; omega, fun x hx => ?_⟩
      rcases List.mem_append.mp hx with y | y
      · exact ⟨by have := (h3 x y).1; omega, (h3 x y).2⟩
      · rw [List.mem_singleton.mp y]; exact ⟨by omega, z.2⟩
    · exact ⟨h1, by omega, fun x hx => ⟨by have := (h3 x hx).1; omega, (h3 x hx).2⟩⟩
theorem wtL_full {f : Nat → Int32} {k l : Nat} (h : ¬ (wtL f k l).length < k) : ∀ q, wtL f k (l + q) = wtL f k l
  | 0 => rfl
  | q + 1 => by
    have ih := wtL_full h q
    show (if (wtL f k (l + q)).length < k ∧ pWa f (l + q) then wtL f k (l + q) ++ [l + q] else wtL f k (l + q)) = wtL f k l
    rw [ih, if_neg (fun z => h z.1)]
/-- what was begun: who waits, the roads of all tales -/
def odI (I : am_I) (f : Nat → Int32) (n : Nat) (ws : List Nat) : Prop := I 46 2 = nI ws.length ∧ (∀ i l, ws[i]? = some l → I 47 i = nI l) ∧ ∀ j, j ≤ 6 → rdT I (52 + 6 * j) f n
theorem rdT_fr {I I' : am_I} {r n : Nat} {f : Nat → Int32} (h : ∀ a, r ≤ a → a ≤ r + 5 → I' a = I a) (hR : rdT I r f n) : rdT I' r f n := by
  obtain ⟨h1, h2, h3, h4⟩ := hR
  refine ⟨?_, ?_, ?_, fun j hj => ?_⟩
  · rw [h r (by omega) (by omega)]; exact h1
  · rw [h r (by omega) (by omega)]; exact h2
  · rw [h r (by omega) (by omega)]; exact h3
  · rw [h (r + 1) (by omega) (by omega), h (r + 2) (by omega) (by omega), h (r + 3) (by omega) (by omega)]; exact h4 j hj
theorem rdT_cg {I : am_I} {r n : Nat} {f f' : Nat → Int32} (hn : n ≤ 17) (h : ∀ i, i = 0 ∨ i = 6 ∨ (7 ≤ i ∧ (i % 5 = 2 ∨ i % 5 = 3 ∨ i % 5 = 4)) → f' i = f i) (hR : rdT I r f n) : rdT I r f' n := by
  obtain ⟨h1, h2, h3, h4⟩ := hR
  refine ⟨?_, h2, ?_, fun j hj => ?_⟩
  · rw [h 0 (by omega)]; exact h1
  · rw [h 6 (by omega)]; exact h3
  · rw [h (7 + 5 * j) (by omega), h (7 + 5 * j + 1) (by omega), h (7 + 5 * j + 2) (by omega)]; exact h4 j hj
theorem odI_fr {I I' : am_I} {f : Nat → Int32} {n : Nat} {ws : List Nat} (h : ∀ a, 47 ≤ a → a ≤ 93 → a ≠ 49 → a ≠ 50 → a ≠ 51 → I' a = I a) (h2 : I' 46 2 = I 46 2) (hI : odI I f n ws) : odI I' f n ws :=
  ⟨h2.trans hI.1, fun i l z => by rw [h 47 (by omega) (by omega) (by omega) (by omega) (by omega)]; exact hI.2.1 i l z, fun j hj => rdT_fr (fun a h3 h4 => h a (by omega) (by omega) (by omega) (by omega) (by omega)) (hI.2.2 j hj)⟩
theorem lp_beg {I : am_I} {L : am_L} {f : Nat → Int32} {n C m k : Nat} (hS : stS I 94 f n C m) (hn : n ≤ 16) (hm : m ≤ 8) (hk : k ≤ 8)
    (h : ∀ I', (∀ a, ¬ (46 ≤ a ∧ a ≤ 93) → I' a = I a) → odI I' f n (wtL f k m) → (∀ j, j ≤ 6 → rdR I' (52 + 6 * j) f n) → Q none I' L (gg Lx ρ)) : ∀ q j I', j + q = 7 → (∀ a, ¬ (46 ≤ a ∧ a ≤ 93) → I' a = I a) → I' 46 2 = nI (wtL f k m).length → (∀ i l, (wtL f k m)[i]? = some l → I' 47 i = nI l) → (∀ i, i < j → rdR I' (52 + 6 * i) f n) → am_W am_all (am_run (d + 2)) e_Orders_begin Q 59 [.ref 46, .ref 94, .int (nI k), .int (nI j)] [] I' L (gg Lx ρ) 0 0
  | 0, j, I', e, hf, h2, h7, hr => by
    have e : j = 7 := e
    subst e
    have hy : (6 : Int32) < nI 7 := by decide
    exact sy_Orders_begin_59 94 _ _ (by decide) (fun _ => h I' hf ⟨h2, h7, fun i hi => (hr i (by omega)).T rfl rfl (fun _ _ => ⟨rfl, rfl, rfl⟩)⟩ (fun i hi => hr i (by omega))) (fun z => absurd hy z) (fun z => absurd hy z)
  | q + 1, j, I', e, hf, h2, h7, hr => by
    have hno : ¬ (6 : Int32) < nI j := nI_nlt (a := 6) (by omega) (by decide)
    refine sy_Orders_begin_59 94 _ _ (by decide) (fun z => absurd z hno) (fun _ => vp_in_nI (by omega) (by decide)) (fun _ => ?_)
    rw [nI_clamp (by omega)]
    have hS' : stS I' 94 f n C m := stS_fr (fun a h1 h2 => hf a (by omega)) hS
    refine sp_Roads_copy (d := d) (tl_mem (by omega)) (s := 95) (by decide) (by omega) hS'.1 (by omega) (fun I1 f1 r1 => sy_Orders_begin_78 94 _ _ (by decide) ?_)
    have F1 : ∀ a, ¬ (52 + 6 * j ≤ a ∧ a ≤ 52 + 6 * j + 5) → I1 a = I' a := fun a z => f1 a (by simp; omega)
    rw [nI_1]
    refine lp_beg hS hn hm hk h q (j + 1) I1 (by omega) (fun a z => by rw [F1 a (by omega), hf a z]) (by rw [F1 46 (by omega)]; exact h2) (fun i l z => by rw [F1 47 (by omega)]; exact h7 i l z) (fun i hi => ?_)
    by_cases z : i = j
    · subst z; exact r1
    · exact rdR_fr (fun a g1 g2 => F1 a (by omega)) (hr i (by omega))
theorem lp_beg0 {I : am_I} {L : am_L} {f : Nat → Int32} {n C m k : Nat} (hS : stS I 94 f n C m) (hn : n ≤ 16) (hm : m ≤ 8) (hk : k ≤ 8)
    (h : ∀ I', (∀ a, ¬ (46 ≤ a ∧ a ≤ 93) → I' a = I a) → odI I' f n (wtL f k m) → (∀ j, j ≤ 6 → rdR I' (52 + 6 * j) f n) → Q none I' L (gg Lx ρ)) : ∀ q l I', l + q = m → (∀ a, ¬ (46 ≤ a ∧ a ≤ 93) → I' a = I a) → I' 46 2 = nI (wtL f k l).length → (∀ i x, (wtL f k l)[i]? = some x → I' 47 i = nI x) → am_W am_all (am_run (d + 2)) e_Orders_begin Q 7 [.ref 46, .ref 94, .int (nI k), .int (nI l)] [] I' L (gg Lx ρ) 0 0
  | 0, l, I', e, hf, h2, h7 => by
    have e : l = m := e
    subst e
    have hno : ¬ nI l < I' 94 10 := by rw [hf 94 (by omega), hS.2.2.1]; exact nI_nlt (Nat.le_refl _) (by omega)
    exact sy_Orders_begin_7 94 _ _ (by decide) (fun _ => lp_beg hS hn hm hk h 7 0 I' rfl hf h2 h7 (fun i hi => absurd hi (by omega))) (fun z => absurd z hno) (fun z => absurd z hno) (fun z => absurd z hno) (fun z => absurd z hno)
  | q + 1, l, I', e, hf, h2, h7 => by
    have hl : l < m := by omega
    have hS' : stS I' 94 f n C m := stS_fr (fun a h1 h2 => hf a (by omega)) hS
    have hyes : nI l < I' 94 10 := by rw [hS'.2.2.1]; exact nI_lt hl (by omega)
    have hp := wtL_p (f := f) (k := k) l
    have hW : hWa I' 94 (nI l) ↔ pWa f l := hWa_n hS' hl hm
    have c2 : I' 46 2 < nI k ↔ (wtL f k l).length < k := by
      rw [h2]; exact ⟨fun z => Classical.byContradiction fun y => absurd z (nI_nlt (by omega) (by omega)), fun z => nI_lt z (by omega)⟩
    refine sy_Orders_begin_7 94 _ _ (by decide) (fun z => absurd hyes z) (fun _ z => ?_) (fun _ z y => ?_) (fun _ z y => ?_) (fun _ z y => ?_)
    · have hfull : wtL f k m = wtL f k l := by rw [← e]; exact wtL_full (fun y => z (c2.mpr y)) _
      exact lp_beg hS hn hm hk h 7 0 I' rfl hf (by rw [hfull]; exact h2) (by rw [hfull]; exact h7) (fun i hi => absurd hi (by omega))
    · rw [nI_1]
      have es : wtL f k (l + 1) = wtL f k l := by
        show (if (wtL f k l).length < k ∧ pWa f l then wtL f k l ++ [l] else wtL f k l) = _
        rw [if_neg (fun q => y (hW.mpr q.2))]
      exact lp_beg0 hS hn hm hk h q (l + 1) I' (by omega) hf (by rw [es]; exact h2) (by rw [es]; exact h7)
    · rw [h2]; exact vp_in_nI (by have := c2.mp z; omega) (by decide)
    · have es : wtL f k (l + 1) = wtL f k l ++ [l] := by
        show (if (wtL f k l).length < k ∧ pWa f l then wtL f k l ++ [l] else wtL f k l) = _
        rw [if_pos ⟨c2.mp z, hW.mp y⟩]
      rw [h2, nI_clamp (by omega), nI_1, nI_1]
      refine lp_beg0 hS hn hm hk h q (l + 1) _ (by omega) (fun a z => by rw [am_u_ne (by omega), am_u_ne (by omega), hf a z]) (by rw [es, am_u_at]; simp) (fun i x hx => ?_)
      rw [am_u_ne (by decide)]
      rw [es] at hx
      by_cases zi : i = (wtL f k l).length
      · subst zi
        rw [List.getElem?_append_right (Nat.le_refl _), Nat.sub_self] at hx
        rw [am_u_at, ← Option.some.inj hx]
      · have hlt : i < (wtL f k l).length := by
          have := (List.getElem?_eq_some_iff.mp hx).1
          simp at this; omega
        rw [List.getElem?_append_left hlt] at hx
        rw [am_u_nk zi]; exact h7 i x hx
theorem sp_Orders_begin {I : am_I} {L : am_L} {f : Nat → Int32} {n C m k : Nat} (hS : stS I 94 f n C m) (hn : n ≤ 16) (hm : m ≤ 8) (hk : k ≤ 8)
    (h : ∀ I', (∀ a, ¬ (46 ≤ a ∧ a ≤ 93) → I' a = I a) → odI I' f n (wtL f k m) → (∀ j, j ≤ 6 → rdR I' (52 + 6 * j) f n) → Q none I' L (gg Lx ρ)) : am_run (d + 3) m_Orders_begin [.ref 46, .ref 94, .int (nI k)] I L (gg Lx ρ) Q :=
  run_in rfl rfl ⟨rfl, rfl⟩ (sy_Orders_begin_0 94 _ (by decide) (lp_beg0 hS hn hm hk h m 0 _ (by omega) (fun a z => am_u_ne (by omega)) am_u_at (fun i x hx => absurd hx (by simp [wtL]))))
/-- the load at a place of those that wait -/
def wAt (ws : List Nat) (i : Nat) : Nat := ws.getD i 0
theorem wAt_i {ws : List Nat} {i : Nat} (h : i < ws.length) : ws[i]? = some (wAt ws i) := by
  unfold wAt; rw [List.getD_eq_getElem?_getD, List.getElem?_eq_getElem h]; rfl
theorem lp_wl {I : am_I} {L : am_L} {K : am_C} {f fS : Nat → Int32} {P n C m x : Nat} {ws : List Nat} (hS : stS I 94 fS n C m) (hff : ∀ i, 92 ≤ i → f i = fS i) (hL : wfL f P m) (hI : odI I f n ws) (hs : ws.length ≤ 8) (hm : m ≤ 8) (hw : ∀ l ∈ ws, l < m) (hx : x < 256)
    (h : Q (some (.int (nI (lft f (wAt ws) x ws.length)))) I L (gg Lx ρ)) : ∀ q i, i + q = ws.length → am_W am_all K e_Orders_worthLeft Q 5 [.ref 46, .ref 94, .int (nI x), .int (nI (lft f (wAt ws) x i)), .int (nI i)] [] I L (gg Lx ρ) 0 0
  | 0, i, e => by
    have e : i = ws.length := e
    subst e
    have hno : ¬ nI ws.length < I 46 2 := by rw [hI.1]; exact nI_nlt (Nat.le_refl _) (by omega)
    exact sz_Orders_worthLeft_5 94 _ _ _ (by decide) (fun _ => h) (fun z => absurd z hno) (fun z => absurd z hno) (fun z => absurd z hno) (fun z => absurd z hno)
  | q + 1, i, e => by
    have hi : i < ws.length := by omega
    have hyes : nI i < I 46 2 := by rw [hI.1]; exact nI_lt hi (by omega)
    have hlm : wAt ws i < m := hw _ (List.mem_of_getElem? (wAt_i hi))
    have e7 : I 47 (nI i).toNatClampNeg = nI (wAt ws i) := by rw [nI_clamp (by omega)]; exact hI.2.1 i _ (wAt_i hi)
    have ih := lp_wl (K := K) hS hff hL hI hs hm hw hx h q (i + 1) (by omega)
    unfold lft at ih
    have hb := rb_0 x hx i (by omega)
    refine sz_Orders_worthLeft_5 94 _ _ _ (by decide) (fun z => absurd hyes z) (fun _ z => ?_) (fun _ _ => vp_in_nI (by omega) (by decide)) (fun _ _ => by rw [e7]; exact vp_in_nI (by omega) (by decide)) (fun _ z => ?_)
    · rw [if_pos (by cases y : x.testBit i with
        | true => rfl
        | false => exact absurd (hb.mpr y) z)] at ih
      rw [nI_1]; exact ih
    · rw [if_neg (by rw [hb.mp z]; decide)] at ih
      have ev : I (94 + 13) (I 47 (nI i).toNatClampNeg).toNatClampNeg = nI (lW f (wAt ws i)) := by
        rw [e7, nI_clamp (by omega), (hS.2.2.2.2.2.1 _ hlm).2.2.2, ← hff _ (by omega)]; exact (hL _ hlm).2.2.2.2.2.2.1
      rw [ev, nI_add, nI_1]; exact ih
theorem lft_le {f : Nat → Int32} {P m x : Nat} {ws : List Nat} (hL : wfL f P m) (hw : ∀ l ∈ ws, l < m) : ∀ i, i ≤ ws.length → lft f (wAt ws) x i ≤ 99 * i
  | 0, _ => Nat.le_refl _
  | i + 1, h => by
    have ih := lft_le (x := x) hL hw i (by omega)
    have := (hL _ (hw _ (List.mem_of_getElem? (wAt_i (ws := ws) (i := i) (by omega))))).2.2.2.2.2.2.2
    unfold lft
    split <;> omega
/-- the best so far -/
def odB (I : am_I) (ws : List Nat) (b : Nat × Nat × List Nat) : Prop := I 46 6 = nI b.1 - 1 ∧ b.1 ≤ 1000 ∧ I 46 7 = nI b.2.1 ∧ ∀ j i, b.2.2[j]? = some i → I 50 j = nI (wAt ws i)
theorem odB_lt {b w : Nat} (hb : b ≤ 1000) (hw : w ≤ 2000) : nI b - 1 < nI w ↔ b < w + 1 := by
  cases b with
  | zero => exact ⟨fun _ => by omega, fun _ => Int32.lt_of_lt_of_le (show (-1 : Int32) < 0 by decide) (nI_pos' (by omega))⟩
  | succ b =>
    rw [nI_pred]
    exact ⟨fun z => Classical.byContradiction fun y => absurd z (nI_nlt (by omega) (by omega)), fun z => nI_lt (by omega) (by omega)⟩
/-- what trying at depth p changes -/
def odR (p : Nat) (I I' : am_I) : Prop := (∀ a, a ≠ 26 → a ≠ 27 → a ≠ 28 → a ≠ 29 → a ≠ 46 → a ≠ 49 → a ≠ 50 → ¬ (58 + 6 * p ≤ a ∧ a ≤ 93) → I' a = I a) ∧ I' 46 2 = I 46 2 ∧ ∀ j, j < p → I' 49 j = I 49 j
theorem odR.rf {p : Nat} {I : am_I} : odR p I I := ⟨fun _ _ _ _ _ _ _ _ _ => rfl, rfl, fun _ _ => rfl⟩
theorem odR.tr {p : Nat} {I I' I2 : am_I} (h : odR p I I') (g : odR p I' I2) : odR p I I2 :=
  ⟨fun a h1 h2 h3 h4 h5 h6 h7 h8 => (g.1 a h1 h2 h3 h4 h5 h6 h7 h8).trans (h.1 a h1 h2 h3 h4 h5 h6 h7 h8), g.2.1.trans h.2.1, fun j hj => (g.2.2 j hj).trans (h.2.2 j hj)⟩
theorem odR.w {p : Nat} {I I' : am_I} (h : odR (p + 1) I I') : odR p I I' :=
  ⟨fun a h1 h2 h3 h4 h5 h6 h7 h8 => h.1 a h1 h2 h3 h4 h5 h6 h7 (by omega), h.2.1, fun j hj => h.2.2 j (by omega)⟩
end ODC
