/-! ===== best order and dear of the reference ===== -/
section ODR
variable {d Lx : Nat} {ρ : List (Nat × Nat)} {Q : am_Q} {Rs : List (List (Nat × List Nat))}
theorem frm_B {n : Nat} {S F : List Nat} {I I' : am_I} (h : frm S F I I') (hS : ∀ a ∈ S, 198 ≤ a ∧ a ≤ 210) (hF : 1 ∉ F ∧ 2 ∉ F) (h8 : I' 198 = I 198) : frB n I I' :=
  ⟨fun a z y => h.1 a z fun q => y (hS a q), fun k hk => h.2 k (by rcases hk with e | e <;> subst e; exact hF.1; exact hF.2), fun i _ => by rw [h8]⟩
theorem lp_moP {I : am_I} {L : am_L} {s : Nat} {x3 x4 x5 x6 x7 : Value} (hs : s ≤ 6) (h40 : I 186 40 = nI s) (h : am_run (d + 3) m_Model_keeps [.ref 186] I L (gg Lx ρ) (fun r I' L' G' => am_W am_all (am_run (d + 3)) e_Model_orders Q 104 [.ref 186, .int (nI (s ^ s)), .int (-1), x3, x4, x5, x6, x7] (r.toList ++ ([] : List Value)) I' L' G' 0 0)) : ∀ q k, k + q = s → am_W am_all (am_run (d + 3)) e_Model_orders Q 77 [.ref 186, .int (nI (s ^ k)), .int (nI k), x3, x4, x5, x6, x7] [] I L (gg Lx ρ) 0 0
  | 0, k, e => by
    have e : k = s := e
    subst e
    have hno : ¬ nI k < I 186 40 := by rw [h40]; exact nI_nlt (Nat.le_refl _) (by omega)
    exact sy_Model_orders_77 _ _ _ _ _ _ _ (fun _ => h) (fun z => absurd z hno)
  | q + 1, k, e => by
    have hyes : nI k < I 186 40 := by rw [h40]; exact nI_lt (by omega) (by omega)
    refine sy_Model_orders_77 _ _ _ _ _ _ _ (fun z => absurd hyes z) (fun _ => ?_)
    rw [h40, pk_mul, nI_1, ← Nat.pow_succ]
    exact lp_moP hs h40 h q (k + 1) (by omega)
theorem lp_moW {I : am_I} {L : am_L} {f : Nat → Int32} {P m : Nat} {x2 x3 x4 x5 x6 x7 : Value} (h198 : I 198 = f) (hm1 : f 3 = nI m) (hm : m ≤ 8) (hL : wfL f P m)
    (h : ∀ I', frm [206] [40, 41, 42] I I' → I' 186 40 = nI (wtL f 6 m).length → I' 186 41 = 0 → I' 186 42 = 0 → (∀ i x, (wtL f 6 m)[i]? = some x → I' 206 i = nI x) → am_W am_all (am_run (d + 3)) e_Model_orders Q 77 [.ref 186, .int 1, .int 0, x3, x4, x5, x6, x7] [] I' L (gg Lx ρ) 0 0) : ∀ q l I', l + q = m → frm [206] [40, 41, 42] I I' → I' 186 40 = nI (wtL f 6 l).length → (∀ i x, (wtL f 6 l)[i]? = some x → I' 206 i = nI x) → am_W am_all (am_run (d + 3)) e_Model_orders Q 7 [.ref 186, .int (nI l), x2, x3, x4, x5, x6, x7] [] I' L (gg Lx ρ) 0 0 := by
  have fin : ∀ I', frm [206] [40, 41, 42] I I' → I' 186 40 = nI (wtL f 6 m).length → (∀ i x, (wtL f 6 m)[i]? = some x → I' 206 i = nI x) → am_W am_all (am_run (d + 3)) e_Model_orders Q 77 [.ref 186, .int 1, .int 0, x3, x4, x5, x6, x7] [] (am_u (am_u I' 186 41 0) 186 42 0) L (gg Lx ρ) 0 0 := fun I' hf h4 h6 =>
    h _ ((hf.uf (by simp)).uf (by simp)) (by rw [am_u_nk (by decide), am_u_nk (by decide)]; exact h4) (by rw [am_u_nk (by decide), am_u_at]) am_u_at (fun i x z => by rw [am_u_ne (by decide), am_u_ne (by decide)]; exact h6 i x z)
  intro q
  induction q with
  | zero =>
    intro l I' e hf h4 h6
    have e : l = m := e
    subst e
    have hno : ¬ nI l < I' 198 3 := by rw [hf.1 198 (by decide) (by simp), h198, hm1]; exact nI_nlt (Nat.le_refl _) (by omega)
    exact sy_Model_orders_7 _ _ _ _ _ _ _ (fun _ => fin I' hf h4 h6) (fun z => absurd z hno) (fun z => absurd z hno) (fun z => absurd z hno) (fun z => absurd z hno) (fun z => absurd z hno) (fun z => absurd z hno)
  | succ q ih =>
    intro l I' e hf h4 h6
    have hl : l < m := by omega
    have e198 : I' 198 = f := (hf.1 198 (by decide) (by simp)).trans h198
    have hyes : nI l < I' 198 3 := by rw [e198, hm1]; exact nI_lt hl (by omega)
    have hp := wtL_p (f := f) (k := 6) l
    have hW : mWa I' (nI l) ↔ pWa f l := by rw [← e198]; exact mWa_n hl hm (by rw [e198]; exact hL)
    have c2 : I' 186 40 < 6 ↔ (wtL f 6 l).length < 6 := by
      rw [h4]; exact ⟨fun z => Classical.byContradiction fun y => absurd z (nI_nlt (b := 6) (by omega) (by omega)), fun z => nI_lt (b := 6) z (by decide)⟩
    refine sy_Model_orders_7 _ _ _ _ _ _ _ (fun z => absurd hyes z) (fun _ z => ?_) (fun _ _ => oL_n (c := 1) (by omega)) (fun _ _ => oL_n (c := 2) (by omega)) (fun _ z y => ?_) (fun _ z y => ?_) (fun _ z y => ?_)
    · have hfull : wtL f 6 m = wtL f 6 l := by rw [← e]; exact wtL_full (fun y => z (c2.mpr y)) _
      exact fin I' hf (by rw [hfull]; exact h4) (by rw [hfull]; exact h6)
    · rw [h4]; exact vp_in_nI (c2.mp z) (by decide)
    · have es : wtL f 6 (l + 1) = wtL f 6 l ++ [l] := by
        show (if (wtL f 6 l).length < 6 ∧ pWa f l then wtL f 6 l ++ [l] else wtL f 6 l) = _
        rw [if_pos ⟨c2.mp z, hW.mp y⟩]
      rw [h4, nI_clamp (by omega), nI_1, nI_1]
      refine ih (l + 1) _ (by omega) ((hf.u (by simp) (by decide)).uf (by simp)) (by rw [es, am_u_at]; simp) (fun i x hx => ?_)
      rw [am_u_ne (by decide)]
      rw [es] at hx
      by_cases zi : i = (wtL f 6 l).length
      · subst zi
        rw [List.getElem?_append_right (Nat.le_refl _), Nat.sub_self] at hx
        rw [am_u_at, ← Option.some.inj hx]
      · have hlt : i < (wtL f 6 l).length := by
          have := (List.getElem?_eq_some_iff.mp hx).1
          simp at this; omega
        rw [List.getElem?_append_left hlt] at hx
        rw [am_u_nk zi]; exact h6 i x hx
    · rw [nI_1]
      have es : wtL f 6 (l + 1) = wtL f 6 l := by
        show (if (wtL f 6 l).length < 6 ∧ pWa f l then wtL f 6 l ++ [l] else wtL f 6 l) = _
        rw [if_neg (fun q => y (hW.mpr q.2))]
      exact ih (l + 1) I' (by omega) hf (by rw [es]; exact h4) (by rw [es]; exact h6)
theorem sp_Model_orders {I : am_I} {L : am_L} {f : Nat → Int32} {P n m : Nat} (h198 : I 198 = f) (hn1 : f 1 = nI n) (hwf : wfN f n) (hm1 : f 3 = nI m) (hm : m ≤ 8) (hL : wfL f P m) (hP10 : P ≤ 10) (hfo : foR Rs (f 6)) (hw : wfRs Rs) (hM : RCm I Rs)
    (h : ∀ I' L', frm [198, 199, 200, 201, 206, 207, 208] [24, 29, 40, 41, 42] I I' → I' 198 = f → I' 186 40 = nI (wtL f 6 m).length → moB I' (wtL f 6 m) (pOB Rs f n (wtL f 6 m)) → Q none I' L' (gg Lx ρ)) : am_run (d + 9) m_Model_orders [.ref 186] I L (gg Lx ρ) Q := by
  have hwt := wtL_p (f := f) (k := 6) m
  have hl6 : (wtL f 6 m).length ≤ 6 := hwt.1
  have hws : ∀ l ∈ wtL f 6 m, l < m ∧ pWa f l := hwt.2.2
  refine run_in rfl rfl ⟨rfl, rfl⟩ (sy_Model_orders_0 (d := d + 5) (lp_moW (d := d + 5) (I := I) h198 hm1 hm hL (fun I1 f1 c1 c2 c3 c4 => ?_) m 0 _ (by omega) (frm.rf.uf (by simp)) am_u_at (fun i x z => absurd z (by simp [wtL]))))
  refine lp_moP (d := d + 5) (s := (wtL f 6 m).length) hl6 c1 ?_ (wtL f 6 m).length 0 (by omega)
  refine sp_Model_keeps (d := d + 7) (fun I2 f2 k2 => sy_Model_orders_104 (d := d + 5) _ _ _ _ _ _ _ ?_)
  have e1 : I1 198 = f := (f1.1 198 (by decide) (by simp)).trans h198
  have e2 : I2 198 = f := (f2.1 198 (by decide) (by simp)).trans e1
  have f02 : frm [198, 199, 200, 201, 206, 207, 208] [24, 29, 40, 41, 42] I I2 := (f1.w (by simp) (by simp)).tr (f2.w (by simp) (by simp))
  have hI2 : moI I2 f (wtL f 6 m) := ⟨(f2.2 40 (by simp)).trans c1, fun i l z => by rw [f2.1 206 (by decide) (by simp)]; exact c4 i l z, fun k hk => by rw [k2 k hk, e1]⟩
  have hB2 : moB I2 (wtL f 6 m) (0, 0, []) := ⟨((f2.2 41 (by simp)).trans c2), by decide, (f2.2 42 (by simp)).trans c3, fun j i z => absurd z (by simp)⟩
  by_cases hs0 : 0 < (wtL f 6 m).length
  · have := lp_moA (d := d) (Q := Q) (Lx := Lx) (ρ := ρ) (I := I2) (x1 := (wtL f 6 m).length ^ (wtL f 6 m).length) rfl hn1 hwf hL hP10 hfo hm hw (f02.M (by simp) (by simp) hM) hl6 hs0 hws hI2 (wtL f 6 m).length [] (0, 0, []) I2 L .null .null .null .null (by simp) (by simp) frm.rf e2 hB2 (fun I3 L3 y4 y5 y6 y7 f3 e3 B3 => ?_)
    · rw [show dgV (wtL f 6 m).length [] = 0 from rfl, Nat.zero_mul] at this
      exact this
    · rw [od_eq (by omega)] at B3
      have hpw : (wtL f 6 m).length ^ (wtL f 6 m).length ≤ 6 ^ 6 := Nat.le_trans (Nat.pow_le_pow_left hl6 _) (Nat.pow_le_pow_right (by decide) hl6)
      have h66 : 6 ^ 6 = 46656 := by decide
      have hno : ¬ nI ((dgV (wtL f 6 m).length [] + 1) * (wtL f 6 m).length ^ (wtL f 6 m).length) < nI ((wtL f 6 m).length ^ (wtL f 6 m).length) := by
        rw [show dgV (wtL f 6 m).length [] = 0 from rfl, Nat.zero_add, Nat.one_mul]; exact nI_nlt (Nat.le_refl _) (by omega)
      exact sy_Model_orders_106 (d := d + 5) _ _ _ _ _ _ _ (fun _ => h I3 L3 (f02.tr (f3.w (by simp) (by simp))) e3 ((moI_fr f3 hI2).1) B3) (fun z => absurd z hno) (fun z => absurd z hno)
  · have e0 : (wtL f 6 m).length = 0 := by omega
    have hno : ¬ 0 < I2 186 40 := by rw [hI2.1, e0]; decide
    have hB : moB I2 (wtL f 6 m) (pOB Rs f n (wtL f 6 m)) := by
      unfold pOB
      rw [e0]
      unfold odD odL
      rw [if_pos (by show 0 < _; exact Nat.succ_pos _)]
      exact ⟨hB2.1, by show 0 + 1 ≤ 1000; decide, hB2.2.2.1, fun j i z => absurd z (by simp)⟩
    exact sy_Model_orders_106 (d := d + 5) _ _ _ _ _ _ _ (fun _ => h I2 L f02 e2 hI2.1 hB) (fun _ _ => h I2 L f02 e2 hI2.1 hB) (fun _ z => absurd z hno)
theorem pOB_pos {f : Nat → Int32} {n : Nat} {ws : List Nat} : ∀ k ds b, (odD (odT Rs n (wAt ws) f) ws.length k ds b).1 = 0 → b.1 = 0
  | 0, ds, b, h => by
    unfold odD odL at h
    split at h
    · exact absurd h (Nat.succ_ne_zero _)
    · exact h
  | k + 1, ds, b, h => by
    have key : ∀ q i b, (odF (odG (odT Rs n (wAt ws) f) ws.length k ds) q i b).1 = 0 → b.1 = 0 := by
      intro q
      induction q with
      | zero => intro i b h; exact h
      | succ q ih =>
        intro i b h
        have := ih (i + 1) _ h
        unfold odG at this
        split at this
        · exact this
        · exact pOB_pos k _ b this
    exact key _ _ b h
/-- some row was tried -/
theorem pOB_1 {f : Nat → Int32} {n : Nat} {ws : List Nat} (hs : ws.length ≤ 6) : 0 < (pOB Rs f n ws).1 := by
  refine Nat.pos_of_ne_zero fun h => ?_
  have hg := pOB_good (Rs := Rs) (f := f) (n := n) hs
  by_cases e : ws.length = 0
  · unfold pOB at h
    rw [e] at h
    unfold odD odL at h
    rw [if_pos (by show 0 < _; exact Nat.succ_pos _)] at h
    exact absurd h (Nat.succ_ne_zero _)
  · have key : ∀ k ds b, (b.1 = 0 → b.2.2 = []) → ((odD (odT Rs n (wAt ws) f) ws.length k ds b).1 = 0 → (odD (odT Rs n (wAt ws) f) ws.length k ds b).2.2 = []) := by
      intro k
      induction k with
      | zero =>
        intro ds b hb
        unfold odD odL
        split
        · exact fun z => absurd z (Nat.succ_ne_zero _)
        · exact hb
      | succ k ih =>
        intro ds b hb
        have k2 : ∀ q i b, (b.1 = 0 → b.2.2 = []) → ((odF (odG (odT Rs n (wAt ws) f) ws.length k ds) q i b).1 = 0 → (odF (odG (odT Rs n (wAt ws) f) ws.length k ds) q i b).2.2 = []) := by
          intro q
          induction q with
          | zero => intro i b hb; exact hb
          | succ q ihq =>
            intro i b hb
            refine ihq (i + 1) _ ?_
            unfold odG
            split
            · exact hb
            · exact ih _ b hb
        exact k2 _ _ b hb
    have := key ws.length [] (0, 0, []) (fun _ => rfl) h
    unfold pOB at hg
    rw [this] at hg
    exact e hg.symm
theorem sp_Model_order {I : am_I} {L : am_L} {P n C m : Nat} {w : Int32} (hwS : wfS Rs (I 198) P n C m) (hw : wfRs Rs) (hM : RCm I Rs)
    (h : ∀ I' L', frB n I I' → Q (some (.int (pOr Rs (I 198) P n (wtL (I 198) 6 m) w))) I' L' (gg Lx ρ)) : am_run (d + 10) m_Model_order [.ref 186, .int w] I L (gg Lx ρ) Q := by
  obtain ⟨hn1, hn16, hwf⟩ := hwS.n
  have hm := hwS.m
  have hP := hwS.P
  have hwt := wtL_p (f := I 198) (k := 6) m
  have i1 : mIn (Int32.toInt64 w) 0 7 ↔ (¬ w < 0 ∧ ¬ 7 < w) := mIn_i (a := 0) (b := 7)
  unfold pOr at h
  refine run_in rfl rfl ⟨rfl, rfl⟩ (sy_Model_order_0 (d := d + 8) _ (fun z => ?_) (fun z z2 => ?_) (fun z z2 => ?_))
  · rw [if_neg (fun q => by rw [hP.1] at z; exact nI_ne0 q.1 (by omega) z)] at h; exact h I L frB.rf
  · have hP0 : 0 < P := Nat.pos_of_ne_zero fun e => z (by rw [hP.1, e]; rfl)
    rw [if_pos ⟨hP0, i1.mp z2⟩] at h
    refine sp_Model_orders (d := d) rfl hn1 hwf hm.1 hm.2 hwS.l hP.2 hwS.fo hw hM (fun I1 L1 f1 e1 l1 b1 => ?_)
    have fB : frB n I I1 := frm_B f1 (by simp) (by simp) e1
    have hpos := pOB_1 (Rs := Rs) (f := I 198) (n := n) hwt.1
    have e41 : I1 186 41 = nI (pOB Rs (I 198) n (wtL (I 198) 6 m)).1 - 1 := by
      rw [b1.1]
      obtain ⟨v, hv⟩ : ∃ v, (pOB Rs (I 198) n (wtL (I 198) 6 m)).1 = v + 1 := ⟨_, (Nat.succ_pred_eq_of_pos hpos).symm⟩
      rw [hv]; exact (nI_pred v).symm
    obtain ⟨k, k0, k7, rfl⟩ := nI_btw (a := 0) (b := 7) rfl rfl (by decide) (by decide) (i1.mp z2).1 (i1.mp z2).2
    have hk2 : ¬ nI k = 0 → ¬ nI k = 1 → 2 ≤ k ∧ nI k - 2 = nI (k - 2) := fun y0 y1 => by
      have : 2 ≤ k := by
        rcases (by omega : k = 0 ∨ k = 1 ∨ 2 ≤ k) with y | y | y
        · subst y; exact absurd rfl y0
        · subst y; exact absurd rfl y1
        · exact y
      exact ⟨this, by rw [show (2 : Int32) = nI 2 from rfl, pk_sub this]⟩
    have hg := pOB_good (Rs := Rs) (f := I 198) (n := n) hwt.1
    have hl6 : (wtL (I 198) 6 m).length ≤ 6 := hwt.1
    refine sy_Model_order_27 (d := d + 8) _ (fun y0 y1 y => ?_) (fun y0 y1 y => ?_) (fun y0 y1 y => ?_) (fun y0 y1 => ?_) (fun y0 => ?_)
    · obtain ⟨k2, es⟩ := hk2 y0 y1
      rw [es, l1] at y
      rw [if_neg y0, if_neg y1, nI_clamp (by omega), List.getElem?_eq_none (by
        have : ¬ k - 2 < (wtL (I 198) 6 m).length := fun q => y (nI_lt q (by omega))
        omega)] at h
      exact h I1 L1 fB
    · obtain ⟨k2, es⟩ := hk2 y0 y1
      rw [es]; exact vp_in_nI (by omega) (by decide)
    · obtain ⟨k2, es⟩ := hk2 y0 y1
      rw [es, l1] at y
      have hlt : k - 2 < (wtL (I 198) 6 m).length := Classical.byContradiction fun q => absurd y (nI_nlt (by omega) (by omega))
      have hz : (pOB Rs (I 198) n (wtL (I 198) 6 m)).2.2[k - 2]? = some (pOB Rs (I 198) n (wtL (I 198) 6 m)).2.2[k - 2] := List.getElem?_eq_getElem (by rw [hg]; exact hlt)
      rw [if_neg y0, if_neg y1, nI_clamp (by omega), hz] at h
      rw [es, nI_clamp (by omega), b1.2.2.2 _ _ hz]
      exact h I1 L1 fB
    · rw [if_neg y0, if_pos y1] at h; rw [b1.2.2.1]; exact h I1 L1 fB
    · rw [if_pos y0] at h; rw [e41]; exact h I1 L1 fB
  · rw [if_neg (fun q => z2 (i1.mpr q.2))] at h; exact h I L frB.rf
theorem sp_Model_dear {I : am_I} {L : am_L} {P n C m : Nat} {r : Int32} (hwS : wfS Rs (I 198) P n C m) (hw : wfRs Rs) (hM : RCm I Rs)
    (h : ∀ I' L', frB n I I' → Q (some (.int (pDe Rs (I 198) n (wtL (I 198) 6 m) r))) I' L' (gg Lx ρ)) : am_run (d + 10) m_Model_dear [.ref 186, .int r] I L (gg Lx ρ) Q := by
  obtain ⟨hn1, hn16, hwf⟩ := hwS.n
  have hm := hwS.m
  have hP := hwS.P
  have hwt := wtL_p (f := I 198) (k := 6) m
  have hv : mRd I r ↔ vN n r := by unfold mRd vN; rw [hn1]
  unfold pDe at h
  refine run_in rfl rfl ⟨rfl, rfl⟩ (sy_Model_dear_0 (d := d + 8) _ (fun z => ?_) (fun z => ?_))
  · rw [if_pos (hv.mp z)] at h
    obtain ⟨j, hj, rfl⟩ := ix_lt (by omega) (hv.mp z).1 (hv.mp z).2
    rw [nI_clamp (by omega)] at h
    have k10 : ((7 + (5 * nI j)) + (3 : Int32)) = nI (7 + 5 * j + 3) := by rw [show (7 : Int32) = nI 7 from rfl, show (5 : Int32) = nI 5 from rfl, show (3 : Int32) = nI 3 from rfl, pk_mul, nI_add, nI_add]
    have hwz : wtL (zL (I 198) j) 6 m = wtL (I 198) 6 m := wtL_cg m (fun i hi => zL_o (by omega))
    refine sp_Model_orders (d := d) rfl hn1 hwf hm.1 hm.2 hwS.l hP.2 hwS.fo hw hM (fun I1 L1 f1 e1 l1 b1 => ?_)
    refine sy_Model_dear_14 (d := d + 8) _ _ _ (oR_n (c := 3) (by omega)) (by rw [k10]; exact vp_in_nI (by omega) (by decide)) ?_
    rw [k10, nI_clamp (by omega), show mR I1 (nI j) 3 = I1 198 (7 + 5 * j + 3) from mR_n (c := 3) (by omega), e1]
    have e1z : am_u I1 198 (7 + 5 * j + 3) 0 198 = zL (I 198) j := by rw [am_u198, e1]; rfl
    refine sp_Model_orders (d := d) e1z (by rw [zL_o (by omega)]; exact hn1) (wfN_zL hwf) (by rw [zL_o (by omega)]; exact hm.1) hm.2 (wfL_zL (by omega) hwS.l hm.2) hP.2 (by rw [zL_o (by omega)]; exact hwS.fo) hw ((f1.u (k := 7 + 5 * j + 3) (v := 0) (a := 198) (by simp) (by decide)).M (by simp) (by simp) hM) (fun I2 L2 f2 e2 l2 b2 => ?_)
    rw [hwz] at l2 b2
    refine sy_Model_dear_44 (d := d + 8) _ _ _ (by rw [k10]; exact vp_in_nI (by omega) (by decide)) ?_
    rw [k10, nI_clamp (by omega), b1.1, b2.1]
    have en : ∀ g : Nat → Int32, nI ((pOB Rs g n (wtL (I 198) 6 m)).1 - 1) = nI (pOB Rs g n (wtL (I 198) 6 m)).1 - 1 := fun g => by
      obtain ⟨v, hv⟩ : ∃ v, (pOB Rs g n (wtL (I 198) 6 m)).1 = v + 1 := ⟨_, (Nat.succ_pred_eq_of_pos (pOB_1 (Rs := Rs) (f := g) (n := n) hwt.1)).symm⟩
      rw [hv]; exact (nI_pred v).symm
    rw [en, en]
    refine h _ L2 (frm_B (((f1.u (k := 7 + 5 * j + 3) (v := 0) (a := 198) (by simp) (by decide)).tr f2).u (a := 198) (by simp) (by decide)) (by simp) (by simp) ?_)
    rw [am_u198, e2]
    refine funext fun i => ?_
    by_cases y : i = 7 + 5 * j + 3
    · subst y; exact up1_at
    · rw [up1_ne y]; exact zL_o y
  · rw [if_neg (fun q => z (hv.mpr q))] at h; exact h I L frB.rf
end ODR
