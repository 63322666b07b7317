/-! ===== who drove: what it is ===== -/
section DVP
variable (Rs : List (List (Nat × List Nat))) (n m : Nat)
/-- one load more of a row, if it may and can -/
def dvS (o : Option (Nat × (Nat → Int32))) (l : Nat) : Option (Nat × (Nat → Int32)) := match o with
  | none => none
  | some st => if l < m ∧ pWa st.2 l ∧ st.1.testBit l = false ∧ pD Rs st.2 n (st.2 (104 + 4 * l)) (lG st.2 l) (lP st.2 l) < 1000000 then some (st.1 ||| 2 ^ l, pG Rs st.2 n (st.2 (104 + 4 * l)) (lG st.2 l) (lP st.2 l)) else none
def dvT (f : Nat → Int32) (ds : List Nat) : Option (Nat × (Nat → Int32)) := ds.foldl (dvS Rs n m) (some (0, f))
end DVP
/-- all that was found is so -/
def dvA (f : Nat → Int32) : Nat → Bool
  | 0 => true
  | r + 1 => dvA f r && (decide (f (136 + r) = -1) || decide (f (136 + r) = f (7 + 5 * r + 3)))
def dvN (x : Nat) (ds : List Nat) (b : Nat × List Nat × Nat) : Nat × List Nat × Nat := (b.1 + 1, if b.1 = 0 then ds else b.2.1, if b.1 = 0 then x else b.2.2 &&& x)
def dvF (n : Nat) (o : Option (Nat × (Nat → Int32))) (ds : List Nat) (b : Nat × List Nat × Nat) : Nat × List Nat × Nat := match o with
  | none => b
  | some st => if dvA st.2 n = true then dvN st.1 ds b else b
def dvL (n : Nat) (T : List Nat → Option (Nat × (Nat → Int32))) : Nat → List Nat → Nat × List Nat × Nat → Nat × List Nat × Nat
  | 0, ds, b => dvF n (T ds) ds b
  | k + 1, ds, b => odF (fun l b => dvL n T k (ds ++ [l]) b) 8 0 b
section DVQ
variable {Rs : List (List (Nat × List Nat))} {n m : Nat} {f : Nat → Int32}
theorem dvT_sn (ds : List Nat) (l : Nat) : dvT Rs n m f (ds ++ [l]) = dvS Rs n m (dvT Rs n m f ds) l := by
  unfold dvT; rw [List.foldl_append]; rfl
theorem dvL_none : ∀ k ds b, dvT Rs n m f ds = none → dvL n (dvT Rs n m f) k ds b = b
  | 0, ds, b, h => by unfold dvL; rw [h]; rfl
  | k + 1, ds, b, h => by
    unfold dvL
    refine odF_id fun l _ _ => dvL_none k _ b ?_
    rw [dvT_sn, h]; rfl
theorem odF_r {β : Type} {g : Nat → β → β} : ∀ q i b, odF g (q + 1) i b = g (i + q) (odF g q i b)
  | 0, i, b => rfl
  | q + 1, i, b => by
    show odF g (q + 1) (i + 1) (g i b) = g (i + (q + 1)) (odF g q (i + 1) (g i b))
    rw [odF_r q (i + 1) (g i b), show i + 1 + q = i + (q + 1) by omega]
/-- those that can't be asked change nothing -/
theorem odF_ws {g : Nat → Nat × List Nat × Nat → Nat × List Nat × Nat} {fS : Nat → Int32} (hm : m ≤ 8) (hg : ∀ l b, ¬ (l < m ∧ pWa fS l) → g l b = b) (b : Nat × List Nat × Nat) : odF g 8 0 b = (wtL fS 8 m).foldl (fun b l => g l b) b := by
  have h1 : ∀ l, l ≤ m → odF g l 0 b = (wtL fS 8 l).foldl (fun b l => g l b) b := by
    intro l
    induction l with
    | zero => intro _; rfl
    | succ l ih =>
      intro hl
      rw [odF_r, ih (by omega), Nat.zero_add]
      have hp := wtL_p (f := fS) (k := 8) l
      show _ = (if (wtL fS 8 l).length < 8 ∧ pWa fS l then wtL fS 8 l ++ [l] else wtL fS 8 l).foldl (fun b l => g l b) b
      by_cases z : pWa fS l
      · rw [if_pos ⟨by omega, z⟩, List.foldl_append]; rfl
      · rw [if_neg (fun q => z q.2), hg l _ (fun q => z q.2)]
  have h2 : ∀ q, m + q ≤ 8 → odF g (m + q) 0 b = odF g m 0 b := by
    intro q
    induction q with
    | zero => intro _; rfl
    | succ q ih =>
      intro hq
      rw [show m + (q + 1) = (m + q) + 1 by omega, odF_r, hg _ _ (fun z => by omega), ih (by omega)]
  have := h2 (8 - m) (by omega)
  rw [show m + (8 - m) = 8 by omega] at this
  rw [this, h1 m (Nat.le_refl _)]
/-- what holds of a row under way -/
theorem dvT_p {P : Nat} (hwf : wfN f n) (hL : wfL f P m) (hm : m ≤ 8) : ∀ (ds : List Nat) (st : Nat × (Nat → Int32)), dvT Rs n m f ds = some st → tal f st.2 ∧ wfN st.2 n ∧ st.1 < 256 ∧ (∀ l ∈ ds, l < m ∧ pWa f l) ∧ (∀ l, st.1.testBit l = true ↔ l ∈ ds) ∧ st.1 = bts ds := by
  refine snoc_ind (fun st e => ?_) (fun ds l ih st e => ?_)
  · have e := Option.some.inj e
    rw [← e]
    exact ⟨tal.rf, hwf, by show 0 < 256; decide, by simp, fun l => by simp, rfl⟩
  · rw [dvT_sn] at e
    cases e0 : dvT Rs n m f ds with
    | none => rw [e0] at e; exact absurd e (by simp [dvS])
    | some s0 =>
      rw [e0] at e
      obtain ⟨i1, i2, i3, i4, i5, i6⟩ := ih s0 e0
      have e : (if l < m ∧ pWa s0.2 l ∧ s0.1.testBit l = false ∧ pD Rs s0.2 n (s0.2 (104 + 4 * l)) (lG s0.2 l) (lP s0.2 l) < 1000000 then some (s0.1 ||| 2 ^ l, pG Rs s0.2 n (s0.2 (104 + 4 * l)) (lG s0.2 l) (lP s0.2 l)) else none) = some st := e
      split at e
      · next z =>
        have e := Option.some.inj e
        rw [← e]
        obtain ⟨g1, g2, g3, g4, g5, g6, g7, g8⟩ := hL l z.1
        have hpl : pWa f l := by
          have := z.2.1
          unfold pWa at this ⊢
          rw [tal_i i1 (by omega), tal_i i1 (by omega)] at this; exact this
        refine ⟨i1.tr (tal_pG hwf.1), wfN_pG i2 (by rw [tal_i i1 (by omega)]; exact g1) g3, Nat.or_lt_two_pow (n := 8) i3 (show 2 ^ l < 2 ^ 8 from Nat.pow_lt_pow_right (by decide) (by omega)), fun x hx => ?_, fun x => ?_, ?_⟩
        · rcases List.mem_append.mp hx with y | y
          · exact i4 x y
          · rw [List.mem_singleton.mp y]; exact ⟨z.1, hpl⟩
        · show (s0.1 ||| 2 ^ l).testBit x = true ↔ _
          rw [Nat.testBit_or, Nat.testBit_two_pow, Bool.or_eq_true, i5 x, decide_eq_true_iff, List.mem_append, List.mem_singleton]
          exact ⟨fun q => q.imp id Eq.symm, fun q => q.imp id Eq.symm⟩
        · show s0.1 ||| 2 ^ l = _
          rw [i6, bts_sn]
      · exact absurd e (by simp)
theorem dvL_le : ∀ k ds b, (dvL n (dvT Rs n m f) k ds b).1 ≤ b.1 + 8 ^ k
  | 0, ds, b => by
    unfold dvL dvF
    split
    · exact Nat.le_add_right _ _
    · split
      · exact Nat.le_refl _
      · exact Nat.le_add_right _ _
  | k + 1, ds, b => by
    have key : ∀ q i b, (odF (fun l b => dvL n (dvT Rs n m f) k (ds ++ [l]) b) q i b).1 ≤ b.1 + q * 8 ^ k := by
      intro q
      induction q with
      | zero => intro i b; exact Nat.le_add_right _ _
      | succ q ih =>
        intro i b
        have h1 := ih (i + 1) (dvL n (dvT Rs n m f) k (ds ++ [i]) b)
        have h2 := dvL_le k (ds ++ [i]) b
        have h3 : (q + 1) * 8 ^ k = q * 8 ^ k + 8 ^ k := Nat.succ_mul _ _
        show (odF (fun l b => dvL n (dvT Rs n m f) k (ds ++ [l]) b) q (i + 1) (dvL n (dvT Rs n m f) k (ds ++ [i]) b)).1 ≤ _
        omega
    have := key 8 0 b
    rw [Nat.pow_succ, Nat.mul_comm]
    exact this
end DVQ
/-! ===== who drove, of the class ===== -/
theorem bt_and : ∀ x, x < 256 → ∀ y, y < 256 → nI x &&& nI y = nI (x &&& y) ∧ x &&& y < 256 := by
  intro x hx y hy
  refine ⟨?_, Nat.lt_of_le_of_lt Nat.and_le_left hx⟩
  apply Int32.toBitVec_inj.mp
  apply BitVec.eq_of_toNat_eq
  rw [Int32.toBitVec_and, BitVec.toNat_and, pk_tn (by omega), pk_tn (by omega), pk_tn (Nat.lt_of_le_of_lt Nat.and_le_left (by omega))]
section DVC
variable {d Lx : Nat} {ρ : List (Nat × Nat)} {Q : am_Q} {Rs : List (List (Nat × List Nat))}
theorem lp_agr {I : am_I} {L : am_L} {K : am_C} {f fS : Nat → Int32} {n C m r : Nat} (hS : stS I 94 fS n C m) (hr : r ∈ rdl) (hR : rdR I r f n) (hn : n ≤ 16) (hff : ∀ i, 92 ≤ i → f i = fS i) (h : Q (some (.int (bI (dvA f n = true)))) I L (gg Lx ρ)) : ∀ q i, i + q = n → dvA f i = true → am_W am_all K e_State_agrees Q 2 [.ref 94, .ref r, .int (nI i)] [] I L (gg Lx ρ) 0 0
  | 0, i, e, hi => by
    have e : i = n := e
    subst e
    have hno : ¬ nI i < I 95 6 := by rw [show I 95 6 = nI i from hS.1.2.1]; exact nI_nlt (Nat.le_refl _) (by omega)
    rw [bI_t hi] at h
    exact sz_State_agrees_2 94 r _ (by decide) hr (fun _ => h) (fun z => absurd z hno) (fun z => absurd z hno) (fun z => absurd z hno) (fun z => absurd z hno) (fun z => absurd z hno) (fun z => absurd z hno)
  | q + 1, i, e, hi => by
    have hl : i < n := by omega
    have hyes : nI i < I 95 6 := by rw [show I 95 6 = nI n from hS.1.2.1]; exact nI_lt hl (by omega)
    have h16 : nI i < 16 := nI_lt (b := 16) (by omega) (by decide)
    have e1 : I (94 + 14) (nI i).toNatClampNeg = f (136 + i) := by rw [nI_clamp (by omega), hff _ (by omega)]; exact hS.2.2.2.2.2.2 i hl
    have e2 : I (r + 4) (nI i).toNatClampNeg = f (7 + 5 * i + 3) := by rw [nI_clamp (by omega)]; exact (hR.2.2.2.2 i hl).2.2.2.1
    refine sz_State_agrees_2 94 r _ (by decide) hr (fun z => absurd hyes z) (fun _ z => absurd h16 z) (fun _ _ => vp_in_nI (by omega) (by decide)) (fun _ _ z => ?_) (fun _ _ _ => vp_in_nI (by omega) (by decide)) (fun _ _ z z2 => ?_) (fun _ _ z z2 => ?_)
    · rw [nI_1]
      rw [e1] at z
      exact lp_agr hS hr hR hn hff h q (i + 1) (by omega) (by unfold dvA; rw [hi, decide_eq_true z]; rfl)
    · rw [nI_1]
      rw [e1, e2] at z2
      exact lp_agr hS hr hR hn hff h q (i + 1) (by omega) (by unfold dvA; rw [hi, decide_eq_true z2, Bool.or_true]; rfl)
    · rw [e1] at z
      rw [e1, e2] at z2
      have : ∀ j, i + 1 ≤ j → j ≤ n → dvA f j = false := by
        intro j h1
        induction j with
        | zero => omega
        | succ j ih =>
          intro h2
          unfold dvA
          by_cases y : j = i
          · subst y; rw [decide_eq_false z, decide_eq_false z2]; simp
          · rw [ih (by omega) (by omega), Bool.false_and]
      rw [bI_f (by rw [this n (by omega) (Nat.le_refl _)]; decide)] at h
      exact h
/-- the rows so far -/
def dvB (I : am_I) (b : Nat × List Nat × Nat) : Prop := I 46 9 = nI b.1 ∧ (b.1 ≠ 0 → I 46 10 = nI b.2.2) ∧ (b.1 = 0 → I 46 10 = 0) ∧ b.2.2 < 256 ∧ ∀ j l, b.2.1[j]? = some l → I 51 j = nI l
/-- what trying rows at depth p changes -/
def dvR (p : Nat) (I I' : am_I) : Prop := (∀ a, a ≠ 26 → a ≠ 27 → a ≠ 28 → a ≠ 29 → a ≠ 46 → a ≠ 49 → a ≠ 51 → ¬ (58 + 6 * p ≤ a ∧ a ≤ 93) → I' a = I a) ∧ I' 46 2 = I 46 2 ∧ ∀ j, j < p → I' 49 j = I 49 j
theorem dvR.rf {p : Nat} {I : am_I} : dvR p I I := ⟨fun _ _ _ _ _ _ _ _ _ => rfl, rfl, fun _ _ => rfl⟩
theorem dvR.tr {p : Nat} {I I' I2 : am_I} (h : dvR p I I') (g : dvR p I' I2) : dvR p I I2 :=
  ⟨fun a h1 h2 h3 h4 h5 h6 h7 h8 => (g.1 a h1 h2 h3 h4 h5 h6 h7 h8).trans (h.1 a h1 h2 h3 h4 h5 h6 h7 h8), g.2.1.trans h.2.1, fun j hj => (g.2.2 j hj).trans (h.2.2 j hj)⟩
theorem dvR.w {p : Nat} {I I' : am_I} (h : dvR (p + 1) I I') : dvR p I I' :=
  ⟨fun a h1 h2 h3 h4 h5 h6 h7 h8 => h.1 a h1 h2 h3 h4 h5 h6 h7 (by omega), h.2.1, fun j hj => h.2.2 j (by omega)⟩
def dvSp (Lx : Nat) (ρ : List (Nat × Nat)) (Rs : List (List (Nat × List Nat))) (f : Nat → Int32) (n C m N : Nat) (D k : Nat) : Prop :=
  ∀ (Q : am_Q) (I : am_I) (L : am_L) (ds : List Nat) (st : Nat × (Nat → Int32)) (b : Nat × List Nat × Nat), ds.length + k = N → dvT Rs n m f ds = some st → b.1 + 8 ^ k ≤ 1000 → stS I 94 f n C m → RCc I ρ Rs → odI I f n (wtL f 8 m) → rdR I (52 + 6 * ds.length) st.2 n → dvB I b → (∀ j l, ds[j]? = some l → I 49 j = nI l) →
    (∀ I' L', dvR ds.length I I' → odI I' f n (wtL f 8 m) → dvB I' (dvL n (dvT Rs n m f) k ds b) → Q none I' L' (gg Lx ρ)) →
    am_run D m_Orders_tryRows [.ref 46, .ref 94, .int (nI ds.length), .int (nI N), .int (nI st.1)] I L (gg Lx ρ) Q
theorem lp_dvC {f : Nat → Int32} {P n C m N d k : Nat} {ds : List Nat} {st : Nat × (Nat → Int32)} {I : am_I} {Q : am_Q} (hwf : wfN f n) (hn : n ≤ 16) (hP : f 0 = nI P) (hP10 : P ≤ 10) (hL : wfL f P m) (hm : m ≤ 8) (hw : wfRs Rs) (hN : N ≤ 3) (ih : dvSp Lx ρ Rs f n C m N (d + k + 6) k)
    (hdk : ds.length + (k + 1) = N) (hst : dvT Rs n m f ds = some st) (hS : stS I 94 f n C m) (hC : RCc I ρ Rs) (hR : rdR I (52 + 6 * ds.length) st.2 n) (hrow : ∀ j l, ds[j]? = some l → I 49 j = nI l) :
    ∀ suf pre (I' : am_I) (L' : am_L) (b' : Nat × List Nat × Nat) (x6 x7 : Value), wtL f 8 m = pre ++ suf → b'.1 + suf.length * 8 ^ k ≤ 1000 → dvR ds.length I I' → odI I' f n (wtL f 8 m) → dvB I' b' →
    (∀ I2 L2, dvR ds.length I I2 → odI I2 f n (wtL f 8 m) → dvB I2 (suf.foldl (fun b l => dvL n (dvT Rs n m f) k (ds ++ [l]) b) b') → Q none I2 L2 (gg Lx ρ)) →
    am_W am_all (am_run (d + k + 6)) e_Orders_tryRows Q 33 [.ref 46, .ref 94, .int (nI ds.length), .int (nI N), .int (nI st.1), .int (nI pre.length), x6, x7] [] I' L' (gg Lx ρ) 0 0
  | [], pre, I', L', b', x6, x7, e, hb, hr, hI, hB, h => by
    have hp := wtL_p (f := f) (k := 8) m
    have e : wtL f 8 m = pre := e.trans (List.append_nil pre)
    have hno : ¬ nI pre.length < I' 46 2 := by rw [hI.1, e]; exact nI_nlt (Nat.le_refl _) (by rw [← e]; omega)
    exact sz_Orders_tryRows_33 94 _ _ _ _ _ _ (by decide) (fun _ => h I' L' hr hI hB) (fun z => absurd z hno) (fun z => absurd z hno) (fun z => absurd z hno) (fun z => absurd z hno) (fun z => absurd z hno)
  | l :: suf, pre, I', L', b', x6, x7, e, hb, hr, hI, hB, h => by
    have hp := wtL_p (f := f) (k := 8) m
    obtain ⟨ht, wf1, hx, hds, hbit, hbts⟩ := dvT_p (Rs := Rs) hwf hL hm ds st hst
    have hlen : (wtL f 8 m).length = pre.length + (suf.length + 1) := by rw [e]; simp
    have hyes : nI pre.length < I' 46 2 := by rw [hI.1]; exact nI_lt (by omega) (by omega)
    obtain ⟨w1, w2⟩ := hp.2.2 l (by rw [e]; simp)
    obtain ⟨g1, g2, g3, g4, g5, g6, g7, g8⟩ := hL l w1
    have e7 : I' 47 (nI pre.length).toNatClampNeg = nI l := by
      rw [nI_clamp (by omega)]
      exact hI.2.1 _ _ (by rw [e, List.getElem?_append_right (Nat.le_refl _), Nat.sub_self]; rfl)
    have hbt := rb_0 st.1 hx l (by omega)
    have key : ∀ (K x y : Nat), x + (suf.length + 1) * K ≤ 1000 → y ≤ x + K → y + suf.length * K ≤ 1000 ∧ x + suf.length * K ≤ 1000 ∧ x + K ≤ 1000 := by
      intro K x y h1 h2
      rw [Nat.succ_mul] at h1
      generalize suf.length * K = z at *
      omega
    have hb : b'.1 + (suf.length + 1) * 8 ^ k ≤ 1000 := hb
    have hap := tl_mem (j := ds.length) (by omega)
    have hap1 := tl_mem (j := ds.length + 1) (by omega)
    have elp : (pre ++ [l]).length = pre.length + 1 := by simp
    have skip : ∀ (J : am_I) (LJ : am_L) (y6 y7 : Value), dvT Rs n m f (ds ++ [l]) = none → dvR ds.length I J → odI J f n (wtL f 8 m) → dvB J b' → am_W am_all (am_run (d + k + 6)) e_Orders_tryRows Q 33 [.ref 46, .ref 94, .int (nI ds.length), .int (nI N), .int (nI st.1), .int (nI pre.length + 1), y6, y7] [] J LJ (gg Lx ρ) 0 0 := by
      intro J LJ y6 y7 hnone rJ iJ bJ
      have := lp_dvC hwf hn hP hP10 hL hm hw hN ih hdk hst hS hC hR hrow suf (pre ++ [l]) J LJ b' y6 y7 (by rw [e]; simp) (key _ _ b'.1 hb (Nat.le_add_right _ _)).2.1 rJ iJ bJ (fun I5 L5 r5 i5 b5 => h I5 L5 r5 i5 (by
        show dvB I5 (suf.foldl _ (dvL n (dvT Rs n m f) k (ds ++ [l]) b'))
        rw [dvL_none k _ b' hnone]; exact b5))
      rw [elp] at this
      rw [nI_1]; exact this
    refine sz_Orders_tryRows_33 94 _ _ _ _ _ _ (by decide) (fun z => absurd hyes z) (fun _ => vp_in_nI (by omega) (by decide)) (fun _ _ => by rw [nI_1]; exact vp_in_nI (by omega) (by decide)) (fun _ _ => vp_in_nI (by omega) (by decide)) (fun _ z => ?_) (fun _ z => ?_)
    · rw [e7] at z
      have hbf := hbt.mp z
      rw [e7, nI_1, nI_clamp (n := ds.length) (by omega), nI_clamp (n := ds.length + 1) (by omega)]
      have R1 : rdR I' (52 + 6 * ds.length) st.2 n := rdR_fr (fun a h1 h2 => hr.1 a (by omega) (by omega) (by omega) (by omega) (by omega) (by omega) (by omega) (by omega)) hR
      have T1 : rdT I' (52 + 6 * (ds.length + 1)) st.2 n := rdT_cg hwf.1 (fun i hi => ht i (by omega)) (hI.2.2 (ds.length + 1) (by omega))
      refine sp_Roads_copyTale (d := d + k + 5) hap1 hap (by omega) R1 T1 hwf.1 (fun I2 f2 r2 => ?_)
      have F2 : ∀ a, ¬ (58 + 6 * ds.length ≤ a ∧ a ≤ 63 + 6 * ds.length) → I2 a = I' a := fun a z2 => f2 a (by simp; omega)
      have S2 : stS I2 94 f n C m := stS_fr (fun a h1 h2 => by rw [F2 a (by omega)]; exact hr.1 a (by omega) (by omega) (by omega) (by omega) (by omega) (by omega) (by omega) (by omega)) hS
      have C2 : RCc I2 ρ Rs := RCc_fr (by rw [F2 21 (by omega)]; exact hr.1 21 (by omega) (by omega) (by omega) (by omega) (by omega) (by omega) (by omega) (by omega)) (fun a ha => by rw [F2 a (by omega)]; exact hr.1 a (by omega) (by omega) (by omega) (by omega) (by omega) (by omega) (by omega) (by omega)) hC
      obtain ⟨q1, q2, q3, q4⟩ := S2.2.2.2.2.2.1 _ w1
      have hlp := g4.resolve_left w2.1
      refine sz_Orders_tryRows_85 94 _ _ _ _ _ _ (by decide) hap1 (vp_in_nI (by omega) (by decide)) ?_
      have v1 : I2 (94 + 10) (nI l).toNatClampNeg = st.2 (104 + 4 * l) := by rw [nI_clamp (by omega), q1, tal_i ht (by omega)]
      have v2 : I2 (94 + 11) (nI l).toNatClampNeg = nI (lP st.2 l) := by rw [nI_clamp (by omega), q2, tal_lP ht]; exact hlp.1
      have v3 : I2 (94 + 12) (nI l).toNatClampNeg = nI (lG st.2 l) := by rw [nI_clamp (by omega), q3, tal_lG ht]; exact g5
      rw [v1, v2, v3]
      have hk : st.2 (104 + 4 * l) = nI (lK f l) := by rw [tal_i ht (by omega)]; exact g1
      have ebit : nI st.1 ||| (1 <<< (nI l &&& 31)) = nI (st.1 ||| 2 ^ l) := (rb_or _ (by omega) l (by omega)).1
      have elen : (ds ++ [l]).length = ds.length + 1 := by simp
      have hpl : pWa st.2 l := by
        unfold pWa at w2 ⊢
        rw [tal_i ht (by omega), tal_i ht (by omega)]; exact w2
      have base : ∀ (I3 : am_I), (∀ a, a ≠ 26 → a ≠ 27 → a ≠ 28 → a ≠ 29 → ¬ (58 + 6 * ds.length ≤ a ∧ a ≤ 63 + 6 * ds.length) → I3 a = I2 a) → (∃ g, tal f g ∧ rdR I3 (52 + 6 * (ds.length + 1)) g n) → dvR ds.length I I3 ∧ odI I3 f n (wtL f 8 m) ∧ dvB I3 b' := by
        intro I3 F3 R3
        have hr3 : dvR ds.length I I3 := by
          refine hr.tr ⟨fun a h1 h2 h3 h4 h5 h6 h7 h8 => ?_, ?_, fun j hj => ?_⟩
          · rw [F3 a h1 h2 h3 h4 (by omega), F2 a (by omega)]
          · rw [F3 46 (by omega) (by omega) (by omega) (by omega) (by omega), F2 46 (by omega)]
          · rw [F3 49 (by omega) (by omega) (by omega) (by omega) (by omega), F2 49 (by omega)]
        refine ⟨hr3, ⟨hr3.2.1.trans (hr.2.1.symm.trans hI.1), fun j x z => by rw [F3 47 (by omega) (by omega) (by omega) (by omega) (by omega), F2 47 (by omega)]; exact hI.2.1 j x z, fun j hj => ?_⟩, ?_⟩
        · by_cases y : j = ds.length + 1
          · subst y
            obtain ⟨g, tg, Rg⟩ := R3
            exact rdR.tal Rg tg
          · refine rdT_fr (fun a h1 h2 => ?_) (hI.2.2 j hj)
            rw [F3 a (by omega) (by omega) (by omega) (by omega) (by omega), F2 a (by omega)]
        · obtain ⟨b1, b2, b3, b4, b5⟩ := hB
          have e46 : I3 46 = I' 46 := by rw [F3 46 (by omega) (by omega) (by omega) (by omega) (by omega), F2 46 (by omega)]
          have e51 : I3 51 = I' 51 := by rw [F3 51 (by omega) (by omega) (by omega) (by omega) (by omega), F2 51 (by omega)]
          exact ⟨by rw [e46]; exact b1, by rw [e46]; exact b2, by rw [e46]; exact b3, b4, fun j i z => by rw [e51]; exact b5 j i z⟩
      refine sp_Finder_go (d := d + k + 1) hap1 r2 wf1 hw C2 (by rw [ht 0 (by omega)]; exact hP) hP10 (by rw [tal_lG ht]; exact g6) (by rw [tal_lP ht]; exact hlp.2) hk g3 (fun hgo I3 L3 f3 l3 R3 => ?_) (fun hgo I3 L3 f3 l3 => ?_)
      · have hne : ¬ nI (pD Rs st.2 n (st.2 (104 + 4 * l)) (lG st.2 l) (lP st.2 l)) = -2 := fun y => absurd (show nI _ < 0 by rw [y]; decide) (nI_pos (by omega))
        have F3 : ∀ a, a ≠ 26 → a ≠ 27 → a ≠ 28 → a ≠ 29 → ¬ (58 + 6 * ds.length ≤ a ∧ a ≤ 63 + 6 * ds.length) → I3 a = I2 a := fun a h1 h2 h3 h4 h5 => f3 a (by simp; omega)
        have eT : dvT Rs n m f (ds ++ [l]) = some (st.1 ||| 2 ^ l, pG Rs st.2 n (st.2 (104 + 4 * l)) (lG st.2 l) (lP st.2 l)) := by
          rw [dvT_sn, hst]
          show (if _ then _ else _) = _
          rw [if_pos ⟨w1, hpl, hbf, hgo⟩]
        obtain ⟨r3, i3, b3⟩ := base I3 F3 ⟨_, ht.tr (tal_pG hwf.1), R3⟩
        refine sz_Orders_tryRows_115 94 _ _ _ _ _ _ _ (by decide) hap1 (fun y => absurd y hne) (fun _ => vp_in_nI (by omega) (by decide)) (fun _ => ?_)
        rw [ebit, nI_1, nI_clamp (by omega)]
        have rr : dvR ds.length I (am_u I3 49 ds.length (nI l)) := r3.tr ⟨fun a h1 h2 h3 h4 h5 h6 h7 h8 => am_u_ne h6, by rw [am_u_ne (by decide)], fun j hj => am_u_nk (by omega)⟩
        have := ih (fun r I' L' G' => am_W am_all (am_run (d + k + 6)) e_Orders_tryRows Q 144 [.ref 46, .ref 94, .int (nI ds.length), .int (nI N), .int (nI st.1), .int (nI pre.length), .int (nI l), .ref (52 + 6 * (ds.length + 1))] (r.toList ++ ([] : List Value)) I' L' G' 0 0) (am_u I3 49 ds.length (nI l)) L3 (ds ++ [l]) _ b' (by rw [elen]; omega) eT (key _ _ b'.1 hb (Nat.le_add_right _ _)).2.2
          (stS_fr (fun a h1 h2 => by rw [am_u_ne (by omega)]; exact F3 a (by omega) (by omega) (by omega) (by omega) (by omega)) S2) (RCc_fr (by rw [am_u_ne (by decide)]; exact F3 21 (by omega) (by omega) (by omega) (by omega) (by omega)) (fun a ha => by rw [am_u_ne (by omega)]; exact F3 a (by omega) (by omega) (by omega) (by omega) (by omega)) C2)
          (odI_fr (fun a h1 h2 h3 h4 h5 => am_u_ne h3) (by rw [am_u_ne (by decide)]) i3) (by rw [elen]; exact rdR_fr (fun a h1 h2 => am_u_ne (by omega)) R3) (by
            obtain ⟨b1, b2, b4, b5, b6⟩ := b3
            exact ⟨by rw [am_u_ne (by decide)]; exact b1, by rw [am_u_ne (by decide)]; exact b2, by rw [am_u_ne (by decide)]; exact b4, b5, fun j i z => by rw [am_u_ne (by decide)]; exact b6 j i z⟩) (fun j x hx => ?_) (fun I4 L4 r4 i4 b4 => ?_)
        · rw [elen] at this; exact this
        · by_cases y : j = ds.length
          · subst y
            rw [List.getElem?_append_right (Nat.le_refl _), Nat.sub_self] at hx
            rw [am_u_at, ← Option.some.inj hx]
          · have hlt : j < ds.length := by
              have := (List.getElem?_eq_some_iff.mp hx).1
              simp at this; omega
            rw [List.getElem?_append_left hlt] at hx
            rw [am_u_nk y, r3.2.2 j hlt]; exact hrow j x hx
        · rw [elen] at r4
          refine sz_Orders_tryRows_144 94 _ _ _ _ _ _ (by decide) ?_
          rw [nI_1]
          have hle := dvL_le (Rs := Rs) (n := n) (m := m) (f := f) k (ds ++ [l]) b'
          have := lp_dvC hwf hn hP hP10 hL hm hw hN ih hdk hst hS hC hR hrow suf (pre ++ [l]) I4 L4 (dvL n (dvT Rs n m f) k (ds ++ [l]) b') (.int (nI l)) (.ref (52 + 6 * (ds.length + 1))) (by rw [e]; simp) (key _ _ _ hb hle).1 (rr.tr r4.w) i4 b4 h
          rw [elp] at this
          exact this
      · refine sz_Orders_tryRows_115 94 _ _ _ _ _ _ _ (by decide) hap1 (fun _ => ?_) (fun y => absurd rfl y) (fun y => absurd rfl y)
        have F3 : ∀ a, a ≠ 26 → a ≠ 27 → a ≠ 28 → a ≠ 29 → ¬ (58 + 6 * ds.length ≤ a ∧ a ≤ 63 + 6 * ds.length) → I3 a = I2 a := fun a h1 h2 h3 h4 h5 => f3 a (by simp; omega)
        obtain ⟨r3, i3, b3⟩ := base I3 F3 ⟨_, ht, rdR_fr (fun a h1 h2 => f3 a (by simp; omega)) r2⟩
        exact skip I3 L3 _ _ (by
          rw [dvT_sn, hst]
          show (if _ then _ else _) = _
          rw [if_neg (fun q => hgo q.2.2.2)]) r3 i3 b3
    · rw [e7] at z ⊢
      exact skip I' L' _ _ (by
        rw [dvT_sn, hst]
        show (if _ then _ else _) = _
        rw [if_neg (fun q => z (hbt.mpr q.2.2.1))]) hr hI hB
theorem dv_try {f : Nat → Int32} {P n C m N : Nat} (hwf : wfN f n) (hn : n ≤ 16) (hP : f 0 = nI P) (hP10 : P ≤ 10) (hL : wfL f P m) (hm : m ≤ 8) (hw : wfRs Rs) (hN : N ≤ 3) (d : Nat) : ∀ k, dvSp Lx ρ Rs f n C m N (d + k + 6) k
  | 0 => by
    intro Q I L ds st b hdk hst hb hS hC hI hR hB hrow h
    have hdk : ds.length = N := hdk
    obtain ⟨ht, wf1, hx, hds, hbit, hbts⟩ := dvT_p (Rs := Rs) hwf hL hm ds st hst
    have hno : ¬ nI ds.length < nI N := by rw [hdk]; exact nI_nlt (Nat.le_refl _) (by omega)
    refine run_in (d := d + 5) rfl rfl ⟨rfl, rfl⟩ (sz_Orders_tryRows_0 94 _ _ _ (by decide) (fun _ => vp_in_nI (by omega) (by decide)) (fun _ => ?_) (fun z => absurd z hno) (fun z => absurd z hno) (fun z => absurd z hno))
    rw [nI_clamp (by omega)]
    have eL : dvL n (dvT Rs n m f) 0 ds b = if dvA st.2 n = true then dvN st.1 ds b else b := by unfold dvL; rw [hst]; rfl
    rw [eL] at h
    refine run_in (d := d + 4) rfl rfl ⟨rfl, rfl⟩ (sz_State_agrees_0 94 _ (by decide) (tl_mem (by omega)) (lp_agr hS (tl_mem (by omega)) hR hn (fun i hi => tal_i ht hi) ?_ n 0 (by omega) rfl))
    obtain ⟨b1, b2, b3, b4, b5⟩ := hB
    refine sz_Orders_tryRows_20 94 _ _ _ _ _ _ _ (by decide) (fun z => ?_) (fun z => ?_)
    · rw [if_neg (bI0 z)] at h
      exact h I L dvR.rf hI ⟨b1, b2, b3, b4, b5⟩
    · rw [if_pos (bI1 z)] at h
      have h8 : (8 : Nat) ^ 0 = 1 := rfl
      refine run_in (d := d + 4) rfl rfl ⟨rfl, rfl⟩ (sz_Orders_noteRow_0 _ (fun y => sz_Orders_tryRows_29 94 _ _ _ _ _ _ (by decide) ?_) (fun y => sz_Orders_tryRows_29 94 _ _ _ _ _ _ (by decide) ?_))
      · have hb0 : b.1 ≠ 0 := fun q => y (by rw [b1, q]; rfl)
        rw [b2 hb0, (bt_and _ b4 _ hx).1, b1, nI_1]
        refine h _ L ⟨fun a h1 h2 h3 h4 h5 h6 h7 h8 => ?_, ?_, fun j hj => ?_⟩ (odI_fr (fun a h1 h2 h3 h4 h5 => ?_) ?_ hI) ⟨?_, fun _ => ?_, fun q => absurd q (Nat.succ_ne_zero _), ?_, fun j l z => ?_⟩
        · rw [am_u_ne h5, am_u_ne h5]
        · rw [am_u_nk (by decide), am_u_nk (by decide)]
        · rw [am_u_ne (by decide), am_u_ne (by decide)]
        · rw [am_u_ne (by omega), am_u_ne (by omega)]
        · rw [am_u_nk (by decide), am_u_nk (by decide)]
        · rw [am_u_at]; rfl
        · rw [am_u_nk (by decide), am_u_at]; show _ = nI (if b.1 = 0 then _ else _); rw [if_neg hb0]
        · show (if b.1 = 0 then _ else _) < 256
          rw [if_neg hb0]; exact (bt_and _ b4 _ hx).2
        · have z : (if b.1 = 0 then ds else b.2.1)[j]? = some l := z
          rw [if_neg hb0] at z
          rw [am_u_ne (by decide), am_u_ne (by decide)]; exact b5 j l z
      · have hb0 : b.1 = 0 := by
          rw [b1] at y
          exact (nI_eq (a := b.1) (b := 0) (by omega) (by decide)).mp y
        rw [(bt_and _ hx _ hx).1, Nat.and_self, b1, nI_1]
        refine h _ L ⟨fun a h1 h2 h3 h4 h5 h6 h7 h8 => ?_, ?_, fun j hj => ?_⟩ (odI_fr (fun a h1 h2 h3 h4 h5 => ?_) ?_ hI) ⟨?_, fun _ => ?_, fun q => absurd q (Nat.succ_ne_zero _), ?_, fun j l z => ?_⟩
        · rw [am_u_ne h5, am_u_ne h5, am_u_ne h5, am_r_ne h7]
        · rw [am_u_nk (by decide), am_u_nk (by decide), am_u_nk (by decide), am_r_ne (by decide)]
        · rw [am_u_ne (by decide), am_u_ne (by decide), am_u_ne (by decide), am_r_ne (by decide)]
        · rw [am_u_ne (by omega), am_u_ne (by omega), am_u_ne (by omega), am_r_ne h5]
        · rw [am_u_nk (by decide), am_u_nk (by decide), am_u_nk (by decide), am_r_ne (by decide)]
        · rw [am_u_at]; rfl
        · rw [am_u_nk (by decide), am_u_at]; show _ = nI (if b.1 = 0 then _ else _); rw [if_pos hb0]
        · show (if b.1 = 0 then _ else _) < 256
          rw [if_pos hb0]; exact hx
        · have z : (if b.1 = 0 then ds else b.2.1)[j]? = some l := z
          rw [if_pos hb0] at z
          have hj3 : j < 3 := by
            have := (List.getElem?_eq_some_iff.mp z).1
            omega
          rw [am_u_ne (by decide), am_u_ne (by decide), am_u_ne (by decide), am_r_at, cpyN hj3]
          exact hrow j l z
  | k + 1 => by
    intro Q I L ds st b hdk hst hb hS hC hI hR hB hrow h
    obtain ⟨ht, wf1, hx, hds, hbit, hbts⟩ := dvT_p (Rs := Rs) hwf hL hm ds st hst
    have hyes : nI ds.length < nI N := nI_lt (by omega) (by omega)
    have h3 : nI ds.length < 3 := nI_lt (b := 3) (by omega) (by decide)
    have hp := wtL_p (f := f) (k := 8) m
    have ih := dv_try (C := C) hwf hn hP hP10 hL hm hw hN d k
    have hbd : b.1 + (wtL f 8 m).length * 8 ^ k ≤ 1000 := by
      have h8 : (8 : Nat) ^ (k + 1) = 8 * 8 ^ k := by rw [Nat.pow_succ, Nat.mul_comm]
      have : (wtL f 8 m).length * 8 ^ k ≤ 8 * 8 ^ k := Nat.mul_le_mul_right _ (by omega)
      omega
    refine run_in (d := d + k + 6) rfl rfl ⟨rfl, rfl⟩ (sz_Orders_tryRows_0 94 _ _ _ (by decide) (fun z => absurd hyes z) (fun z => absurd hyes z) (fun _ _ => ?_) (fun _ z => absurd h3 z) (fun _ z => absurd h3 z))
    refine lp_dvC hwf hn hP hP10 hL hm hw hN ih hdk hst hS hC hR hrow (wtL f 8 m) [] I L b _ _ rfl hbd dvR.rf hI hB (fun I2 L2 r2 i2 b2 => h I2 L2 r2 i2 ?_)
    unfold dvL
    rw [odF_ws (fS := f) hm (fun l b z => dvL_none k _ b ?_)]
    · exact b2
    · rw [dvT_sn, hst]
      show (if _ then _ else _) = _
      rw [if_neg (fun q => z ⟨q.1, by
        have := q.2.1
        unfold pWa at this ⊢
        rw [tal_i ht (by omega), tal_i ht (by omega)] at this; exact this⟩)]
end DVC
