/-! ===== reached, wiped ===== -/
section RCH
variable {d Lx : Nat} {ρ : List (Nat × Nat)} {Q : am_Q} {Rs : List (List (Nat × List Nat))}
theorem lp_pfI {I : am_I} {L : am_L} {C : am_C} {r n x : Nat} {x2 x4 : Int32} {f : Nat → Int32} {u v : Nat → Bool} {c : Nat → Nat} (hr : r ∈ rdl) (hR : rdR I r f n) (hwf : wfN f n) (hlk : lkd I n u v c) (hx : x < 1024)
    (h : ∀ v5 v6 v7, am_W am_all C e_Finder_placesFrom Q 7 [.ref 25, .ref r, .int x2, .int (nI (rcP (rA f) (rB f) u v n x)), .int (x4 + 1), v5, v6, v7] [] I L (gg Lx ρ) 0 0) : ∀ m j (v6 v7 : Value), j + m = n → am_W am_all C e_Finder_placesFrom Q 17 [.ref 25, .ref r, .int x2, .int (nI (rcP (rA f) (rB f) u v j x)), .int x4, .int (nI j), v6, v7] [] I L (gg Lx ρ) 0 0
  | 0, j, v6, v7, e => by
    have e : j = n := e
    subst e
    have hno : ¬ nI j < I r 6 := by rw [hR.2.1]; exact nI_nlt (Nat.le_refl _) (by have := hwf.1; omega)
    exact sy_Finder_placesFrom_17 r _ _ _ _ _ _ hr (fun _ => h _ _ _) (fun z => absurd z hno) (fun z => absurd z hno) (fun z => absurd z hno) (fun z => absurd z hno) (fun z => absurd z hno)
  | m + 1, j, v6, v7, e => by
    have hn := hwf.1
    have hj : j < n := by omega
    obtain ⟨k1, k2, k3, k4, k5⟩ := hlk j hj
    obtain ⟨w1, w2, w3, w4, w5, w6, w7, w8, w9, w10⟩ := hwf.2 j hj
    obtain ⟨q1, q2, q3, q4, q5⟩ := hR.2.2.2.2 j hj
    have ei : (nI j).toNatClampNeg = j := nI_clamp (by omega)
    have v17 : vp_in (nI j) 17 := vp_in_nI (by omega) (by decide)
    have hp := (rcP_p (u := u) (v := v) (a := rA f) (b := rB f) hx j (fun i hi => ⟨(hwf.2 i (by omega)).2.1, (hwf.2 i (by omega)).2.2.2.1⟩)).1
    have hp1 := (rcH_p (a := rA f j) (b := rB f j) (o := u j) hp w4).1
    have eA : I (r + 1) (nI j).toNatClampNeg = nI (rA f j) := by rw [ei, q1]; exact w1
    have eB : I (r + 2) (nI j).toNatClampNeg = nI (rB f j) := by rw [ei, q2]; exact w3
    have e26 : I 26 (nI j).toNatClampNeg = bI (u j = true) := by rw [ei]; exact k1
    have e27 : I 27 (nI j).toNatClampNeg = bI (v j = true) := by rw [ei]; exact k2
    have fin : ∀ y, y = rcH (rA f j) (rB f j) (u j) (rcP (rA f) (rB f) u v j x) → am_W am_all C e_Finder_placesFrom Q 77 [.ref 25, .ref r, .int x2, .int (nI y), .int x4, .int (nI j), .int (1 <<< (nI (rA f j) &&& 31)), .int (1 <<< (nI (rB f j) &&& 31))] [] I L (gg Lx ρ) 0 0 := by
      intro y hy
      have hy1 : y < 1024 := by rw [hy]; exact hp1
      have go : ∀ y2, y2 = rcH (rB f j) (rA f j) (v j) y → am_W am_all C e_Finder_placesFrom Q 99 [.ref 25, .ref r, .int x2, .int (nI y2), .int x4, .int (nI j), .int (1 <<< (nI (rA f j) &&& 31)), .int (1 <<< (nI (rB f j) &&& 31))] [] I L (gg Lx ρ) 0 0 := by
        intro y2 hy2
        refine sy_Finder_placesFrom_99 r _ _ _ _ _ _ hr ?_
        rw [nI_1, hy2, hy]
        exact lp_pfI hr hR hwf hlk hx h m (j + 1) _ _ (by omega)
      refine sy_Finder_placesFrom_77 r _ _ _ _ _ _ hr v17 (fun z => ?_) (fun z z2 => ?_) (fun z z2 => ?_)
      · rw [e27] at z
        exact go y (by unfold rcH; rw [if_neg (fun q => bI0 z q.1)])
      · have := (rb_and y hy1 (rB f j) w4).mp z2
        exact go y (by unfold rcH; rw [if_neg (fun q => by rw [this] at q; exact absurd q.2 (by decide))])
      · rw [e27] at z
        rw [(rb_or y hy1 (rA f j) w2).1]
        have hb : y.testBit (rB f j) = true := by
          cases hh : y.testBit (rB f j) with
          | true => rfl
          | false => exact absurd ((rb_and y hy1 (rB f j) w4).mpr hh) z2
        exact go _ (by unfold rcH; rw [if_pos ⟨bI1 z, hb⟩])
    refine sy_Finder_placesFrom_17 r _ _ _ _ _ _ hr (fun z => absurd (by rw [hR.2.1]; exact nI_lt hj (by omega)) z) (fun _ z => absurd (nI_lt (b := 17) (by omega) (by decide)) z) (fun _ _ => v17) (fun _ _ z => ?_) (fun _ _ z z2 => ?_) (fun _ _ z z2 => ?_)
    · rw [e26] at z
      rw [eA, eB]
      exact fin _ (by unfold rcH; rw [if_neg (fun q => bI0 z q.1)])
    · rw [eA] at z2
      have := (rb_and _ hp (rA f j) w2).mp z2
      rw [eA, eB]
      exact fin _ (by unfold rcH; rw [if_neg (fun q => by rw [this] at q; exact absurd q.2 (by decide))])
    · rw [e26] at z
      rw [eA] at z2
      rw [eA, eB, (rb_or _ hp (rB f j) w4).1]
      have hb : (rcP (rA f) (rB f) u v j x).testBit (rA f j) = true := by
        cases hh : (rcP (rA f) (rB f) u v j x).testBit (rA f j) with
        | true => rfl
        | false => exact absurd ((rb_and _ hp (rA f j) w2).mpr hh) z2
      exact fin _ (by unfold rcH; rw [if_pos ⟨bI1 z, hb⟩])
theorem lp_pf {I : am_I} {L : am_L} {C : am_C} {r n x : Nat} {x2 : Int32} {f : Nat → Int32} {u v : Nat → Bool} {c : Nat → Nat} (hr : r ∈ rdl) (hR : rdR I r f n) (hwf : wfN f n) (hlk : lkd I n u v c) (hx : x < 1024) (hx1 : 1 ≤ pop10 x)
    (h : Q (some (.int (nI (rcI (rA f) (rB f) u v n 10 x)))) I L (gg Lx ρ)) : ∀ m k (v5 v6 v7 : Value), k + m = 10 → am_W am_all C e_Finder_placesFrom Q 7 [.ref 25, .ref r, .int x2, .int (nI (rcI (rA f) (rB f) u v n k x)), .int (nI k), v5, v6, v7] [] I L (gg Lx ρ) 0 0
  | 0, k, v5, v6, v7, e => by
    have e : k = 10 := e
    subst e
    exact sy_Finder_placesFrom_7 r _ _ _ _ _ _ hr (fun _ => h) (fun z => absurd z (by decide))
  | m + 1, k, v5, v6, v7, e => by
    have ha : ∀ j, j < n → rA f j < 10 ∧ rB f j < 10 := fun j hj => ⟨(hwf.2 j hj).2.1, (hwf.2 j hj).2.2.2.1⟩
    refine sy_Finder_placesFrom_7 r _ _ _ _ _ _ hr (fun z => absurd (nI_lt (b := 10) (by omega) (by decide)) z) (fun _ => ?_)
    exact lp_pfI (x := rcI (rA f) (rB f) u v n k x) hr hR hwf hlk (rcI_p hx hx1 ha k).1 (fun w5 w6 w7 => by
      rw [nI_1]; exact lp_pf hr hR hwf hlk hx hx1 h m (k + 1) _ _ _ (by omega)) n 0 _ _ (by omega)
theorem pop10_p : ∀ p, p < 10 → 1 ≤ pop10 (2 ^ p) := by decide
def pRc (Rs : List (List (Nat × List Nat))) (f : Nat → Int32) (P n : Nat) (k fr : Int32) : Int32 :=
  if asks P k fr fr then nI (rcI (rA f) (rB f) (uO Rs f k) (vO Rs f k) n 10 (2 ^ fr.toNatClampNeg)) else -1
theorem sp_LL_reached {I : am_I} {L : am_L} {f : Nat → Int32} {P n C m : Nat} {k fr : Int32} (hS : stS I 94 f n C m) (hwS : wfS Rs f P n C m) (hw : wfRs Rs) (hC : RCc I ρ Rs)
    (h : ∀ I' L', frA I I' → Q (some (.int (pRc Rs f P n k fr))) I' L' (gg Lx ρ)) : am_run (d + 5) m_LL_reached [.ref 12, .int k, .int fr] I L (gg Lx ρ) Q := by
  have hP := hwS.P
  obtain ⟨hn1, hn16, hwf⟩ := hwS.n
  unfold pRc at h
  refine run_in rfl rfl ⟨rfl, rfl⟩ (sy_LL_reached_0 (d := d + 2) _ _ (fun z => ?_) (fun z => ?_))
  · have z := (hAsk_n hS hwS).mp z
    rw [if_pos z] at h
    obtain ⟨kk, p, t, k1, k7, rfl, hp, rfl, ht, e⟩ := asks_n hP.2 z
    rw [nI_clamp (n := p) (by omega)] at h
    refine sp_Finder_look (d := d) (r := 95) (by decide) hS.1 hwf hw hC (fun I1 L1 f1 l1 v1 => sy_LL_reached_27 (d := d + 2) _ _ ?_)
    have hlk1 := lkd_look hwf v1
    refine run_in rfl rfl ⟨rfl, rfl⟩ (sy_Finder_placesFrom_0 95 _ (by decide) ?_)
    rw [(rb_1 p (by omega)).1]
    exact lp_pf (r := 95) (by decide) (rdR_fr (fun a g1 g2 => f1 a (by simp; omega)) hS.1) hwf hlk1 (rb_1 p (by omega)).2 (pop10_p p (by omega)) (sy_LL_reached_42 (d := d + 2) _ _ _ (h I1 L1 (f1.A (by simp)))) 10 0 _ _ _ (by omega)
  · rw [if_neg (fun y => z ((hAsk_n hS hwS).mpr y))] at h; exact h I L frA.rf
theorem mrc_half {I : am_I} {L : am_L} {j w A B x : Nat} {o : Bool} {x1 x2 x4 : Int32} (hj : j < 17) (hw : w < 2) (hx : x < 1024) (hA : I 198 (7 + 5 * j + w) = nI A) (hB : I 198 (7 + 5 * j + (1 - w)) = nI B) (hA10 : A < 10) (hB10 : B < 10) (ho : I 199 (2 * j + w) = bI (o = true))
    (h : am_W am_all (am_run (d + 2)) e_Model_reached Q 58 [.ref 186, .int x1, .int x2, .int (nI (rcH A B o x)), .int x4, .int (nI j), .int (nI (w + 1))] [] I L (gg Lx ρ) 0 0) :
    am_W am_all (am_run (d + 2)) e_Model_reached Q 58 [.ref 186, .int x1, .int x2, .int (nI x), .int x4, .int (nI j), .int (nI w)] [] I L (gg Lx ρ) 0 0 := by
  have c2 : nI w < 2 := nI_lt (b := 2) hw (by decide)
  have e1w : (1 : Int32) - nI w = nI (1 - w) := pk_sub (a := 1) (b := w) (by omega)
  have rA : mR I (nI j) (nI w) = nI A := (mR_n (by omega)).trans hA
  have rB : mR I (nI j) (1 - nI w) = nI B := by rw [e1w]; exact (mR_n (by omega)).trans hB
  have e9 : I 199 (Int32.toNatClampNeg ((2 * nI j) + nI w)) = bI (o = true) := by rw [k2, nI_clamp (by omega)]; exact ho
  have go : ∀ y, y = rcH A B o x → am_W am_all (am_run (d + 2)) e_Model_reached Q 109 [.ref 186, .int x1, .int x2, .int (nI y), .int x4, .int (nI j), .int (nI w)] [] I L (gg Lx ρ) 0 0 := by
    intro y hy
    refine sy_Model_reached_109 _ _ _ _ _ _ ?_
    rw [nI_1, hy]; exact h
  refine sy_Model_reached_58 _ _ _ _ _ _ (fun z => absurd c2 z) (fun _ => by rw [k2]; exact vp_in_nI (by omega) (by decide)) (fun _ z => ?_) (fun _ _ => oR_n (by omega)) (fun _ z z2 => ?_) (fun _ _ _ => by rw [e1w]; exact oR_n (by omega)) (fun _ z z2 => ?_)
  · rw [e9] at z
    exact go x (by unfold rcH; rw [if_neg (fun q => bI0 z q.1)])
  · rw [rA] at z2
    exact go x (by unfold rcH; rw [if_neg (fun q => z2 ((rb_of x hx A hA10).mpr q.2))])
  · rw [e9] at z
    rw [rA] at z2
    rw [rB, (rb_or x hx B hB10).1]
    exact go _ (by unfold rcH; rw [if_pos ⟨bI1 z, (rb_of x hx A hA10).mp z2⟩])
theorem lp_mrcI {I : am_I} {L : am_L} {n x : Nat} {x1 x2 x4 : Int32} {f : Nat → Int32} {u v : Nat → Bool} (hn : I 186 29 = nI n) (hf0 : I 198 = f) (hwf : wfN f n) (hmk : mkd I n u v) (hx : x < 1024)
    (h : ∀ v5 v6, am_W am_all (am_run (d + 2)) e_Model_reached Q 34 [.ref 186, .int x1, .int x2, .int (nI (rcP (rA f) (rB f) u v n x)), .int x4, v5, v6] [] I L (gg Lx ρ) 0 0) : ∀ m j (v6 : Value), j + m = n → am_W am_all (am_run (d + 2)) e_Model_reached Q 46 [.ref 186, .int x1, .int x2, .int (nI (rcP (rA f) (rB f) u v j x)), .int x4, .int (nI j), v6] [] I L (gg Lx ρ) 0 0
  | 0, j, v6, e => by
    have e : j = n := e
    subst e
    have hno : ¬ nI j < I 186 29 := by rw [hn]; exact nI_nlt (Nat.le_refl _) (by have := hwf.1; omega)
    exact sy_Model_reached_46 _ _ _ _ _ _ (fun _ => h _ _) (fun z => absurd z hno)
  | m + 1, j, v6, e => by
    have hn17 := hwf.1
    have hj : j < n := by omega
    obtain ⟨w1, w2, w3, w4, w5, w6, w7, w8, w9, w10⟩ := hwf.2 j hj
    have hp := (rcP_p (u := u) (v := v) (a := rA f) (b := rB f) hx j (fun i hi => ⟨(hwf.2 i (by omega)).2.1, (hwf.2 i (by omega)).2.2.2.1⟩)).1
    have hp1 := (rcH_p (a := rA f j) (b := rB f j) (o := u j) hp w4).1
    refine sy_Model_reached_46 _ _ _ _ _ _ (fun z => absurd (by rw [hn]; exact nI_lt hj (by omega)) z) (fun _ => ?_)
    refine mrc_half (w := 0) (A := rA f j) (B := rB f j) (o := u j) (by omega) (by omega) hp (by rw [hf0]; exact w1) (by rw [hf0]; exact w3) w2 w4 (hmk j hj).1 ?_
    refine mrc_half (w := 1) (A := rB f j) (B := rA f j) (o := v j) (by omega) (by omega) hp1 (by rw [hf0]; exact w3) (by rw [hf0]; exact w1) w4 w2 (hmk j hj).2 ?_
    refine sy_Model_reached_58 _ _ _ _ _ _ (fun _ => ?_) (fun z => absurd z (by decide)) (fun z => absurd z (by decide)) (fun z => absurd z (by decide)) (fun z => absurd z (by decide)) (fun z => absurd z (by decide)) (fun z => absurd z (by decide))
    rw [nI_1]
    exact lp_mrcI hn hf0 hwf hmk hx h m (j + 1) _ (by omega)
theorem lp_mrc {I : am_I} {L : am_L} {n x : Nat} {x1 x2 : Int32} {f : Nat → Int32} {u v : Nat → Bool} (hn : I 186 29 = nI n) (hf0 : I 198 = f) (hwf : wfN f n) (hmk : mkd I n u v) (hx : x < 1024) (hx1 : 1 ≤ pop10 x)
    (h : Q (some (.int (nI (rcI (rA f) (rB f) u v n 10 x)))) I L (gg Lx ρ)) : ∀ m k was (v5 v6 : Value), k + m = 10 → was < 1024 → (was = rcI (rA f) (rB f) u v n k x → rcI (rA f) (rB f) u v n (k + 1) x = rcI (rA f) (rB f) u v n k x) → (k = 10 → was = rcI (rA f) (rB f) u v n k x) → am_W am_all (am_run (d + 2)) e_Model_reached Q 34 [.ref 186, .int x1, .int x2, .int (nI (rcI (rA f) (rB f) u v n k x)), .int (nI was), v5, v6] [] I L (gg Lx ρ) 0 0
  | m, k, was, v5, v6, e, hw, hfix, h10 => by
    have ha : ∀ j, j < n → rA f j < 10 ∧ rB f j < 10 := fun j hj => ⟨(hwf.2 j hj).2.1, (hwf.2 j hj).2.2.2.1⟩
    have hk := (rcI_p (u := u) (v := v) hx hx1 ha k).1
    have heq : nI (rcI (rA f) (rB f) u v n k x) = nI was ↔ rcI (rA f) (rB f) u v n k x = was := nI_eq (by omega) (by omega)
    refine sy_Model_reached_34 _ _ _ _ _ _ (fun z => ?_) (fun z => ?_)
    · have := rcI_st (hfix (heq.mp z).symm) m
      rw [e] at this
      rw [← this]; exact h
    · match m, e with
      | 0, e => exact absurd (heq.mpr (h10 e).symm) z
      | m + 1, e =>
        refine lp_mrcI (x := rcI (rA f) (rB f) u v n k x) hn hf0 hwf hmk hk (fun w5 w6 => ?_) n 0 _ (by omega)
        refine lp_mrc hn hf0 hwf hmk hx hx1 h m (k + 1) (rcI (rA f) (rB f) u v n k x) _ _ (by omega) hk (fun y => ?_) (fun y => ?_)
        · show rcP (rA f) (rB f) u v n (rcI (rA f) (rB f) u v n (k + 1) x) = _
          rw [← y]; exact y.symm
        · have : k = 9 := by omega
          subst this
          exact (rcI_fix hx hx1 ha).symm
theorem sp_Model_reached {I : am_I} {L : am_L} {P n C m : Nat} {k fr : Int32} (hwS : wfS Rs (I 198) P n C m) (hw : wfRs Rs) (hM : RCm I Rs)
    (h : ∀ I' L', frB n I I' → Q (some (.int (pRc Rs (I 198) P n k fr))) I' L' (gg Lx ρ)) : am_run (d + 8) m_Model_reached [.ref 186, .int k, .int fr] I L (gg Lx ρ) Q := by
  have hP := hwS.P
  obtain ⟨hn1, hn16, hwf⟩ := hwS.n
  unfold pRc at h
  refine run_in rfl rfl ⟨rfl, rfl⟩ (sy_Model_reached_0 (d := d + 5) _ _ (fun z => ?_) (fun z => ?_))
  · have z := (mAsk_n hwS).mp z
    rw [if_pos z] at h
    obtain ⟨kk, p, t, k1, k7, rfl, hp, rfl, ht, e⟩ := asks_n hP.2 z
    rw [nI_clamp (n := p) (by omega)] at h
    have f0 : frm [199, 200] [24, 29] I (am_u I 186 29 (I 198 1)) := frm.rf.uf (by simp)
    have e198 : am_u I 186 29 (I 198 1) 198 = I 198 := am_u_ne (by decide)
    refine sp_Model_marks (d := d + 1) (Rs := Rs) (n := n) (by rw [am_u_at]; exact hn1) (by rw [e198]; exact hwf) rfl k7 (by rw [e198]; exact hwS.fo) hw (f0.M (by simp) (by simp) hM) (fun I1 L1 f1 l1 m1 => sy_Model_reached_27 (d := d + 5) _ _ _ _ _ _ ?_)
    rw [e198] at m1
    have f01 : frm [199, 200] [24, 29] I I1 := f0.tr (f1.w (by simp) (by simp))
    rw [(rb_1 p (by omega)).1]
    have hp10 := (rb_1 p (by omega)).2
    have hp0 : 0 < 2 ^ p := Nat.two_pow_pos p
    exact lp_mrc (d := d + 5) ((f1.2 29 (by simp)).trans (am_u_at.trans hn1)) (f01.1 198 (by decide) (by simp)) hwf m1 hp10 (pop10_p p (by omega)) (h I1 L1 (f01.B (by simp) (by simp))) 10 0 0 _ _ (by omega) (by decide) (fun y => absurd y (by show ¬ 0 = 2 ^ p; omega)) (fun y => absurd y (by decide))
  · rw [if_neg (fun y => z ((mAsk_n hwS).mpr y))] at h; exact h I L frB.rf
end RCH
