/-! ===== plan of the reference: all of it ===== -/
theorem mu_d {A B K x y : Nat} (h : A + 1 ≤ B) (hx : x ≤ K + y) : A * K + x ≤ B * K + y := by
  obtain ⟨c, rfl⟩ : ∃ c, B = A + 1 + c := ⟨B - (A + 1), by omega⟩
  rw [Nat.add_mul, Nat.add_mul, Nat.one_mul]
  generalize A * K = z
  generalize c * K = w
  omega
theorem mu_c {D D' i j : Nat} (h : D + 1 ≤ D' ∧ D' ≤ 9000) (hi : i ≤ 1000) : muP D' j ≤ muP D i :=
  mu_d (A := 9001 - D') (B := 9001 - D) (K := 1002) (by omega) (by omega)
section PLZ
variable {d Lx : Nat} {ρ : List (Nat × Nat)} {Q : am_Q} {Rs : List (List (Nat × List Nat))}
theorem lp_mpl {I : am_I} {f : Nat → Int32} {n kd lies D0 goal l : Nat} {x1 : Int32} (hwf : wfN f n) (hn1 : f 1 = nI n) (hn : n ≤ 16) (hk : kd ≤ 7) (hl : lies < 10) (hD0 : D0 ≤ 9999) (hg : goal < 10) (hl8 : l < 8) (hgl : f (104 + 4 * l + 2) = nI goal) (hkl : f (104 + 4 * l) = nI kd) (hfo : foR Rs (f 6)) (hw : wfRs Rs) (hM : RCm I Rs) : ∀ F (st : PSt) D i (I' : am_I) (L' : am_L) (x6 x7 x8 x9 x10 x11 x12 x13 : Value), muP D i < F → i < st.1 → st.2.2.1 i = D → plW n st → st.2.2.2 = false → frP I I' → reP I' L' st (gP st D i) → (∃ ls, I' 198 = fL f n ls) →
    (∀ I2 L2, frP I I2 → (∃ ls, I2 198 = fL f n ls) → Q (some (.int (plR Rs f n kd lies D0 goal F st D i))) I2 L2 (gg Lx ρ)) →
    am_W am_all (am_run (d + 5)) e_Model_plans Q 80 [.ref 186, .int x1, .int (nI l), .int (nI lies), .int (nI D0), .int (nI i), x6, x7, x8, x9, x10, x11, x12, x13] [] I' L' (gg Lx ρ) 0 0 := by
  intro F
  induction F with
  | zero => intro st D i I' L' x6 x7 x8 x9 x10 x11 x12 x13 hmu; exact absurd hmu (Nat.not_lt_zero _)
  | succ F ih =>
    intro st D i I' L' x6 x7 x8 x9 x10 x11 x12 x13 hmu hlt ed hW ho hf hP he h
    obtain ⟨ls0, e198⟩ := he
    have h1000 := hW.1
    have hs := (hW.2.1 i hlt).1
    have hdi := (hW.2.1 i hlt).2
    have ei : (nI i).toNatClampNeg = i := nI_clamp (by omega)
    have hp10 := hs.1
    have hD : D ≤ 9000 := by omega
    unfold plR at h
    rw [if_neg (show ¬ 9000 < D by omega), if_pos hlt, if_pos ed] at h
    refine sy_Model_plans_80 (d := d + 3) _ _ _ _ _ _ _ _ _ _ _ _ _ (fun z => absurd z (nI_pos (by omega))) (fun _ => vp_in_nI (by omega) (by decide)) (fun _ => ?_)
    rw [ei]
    have e198a : am_u I' 204 i 1 198 = fL f n ls0 := by rw [am_u_ne (by decide)]; exact e198
    refine sp_std (d := d + 4) hn hs hn1 (by omega) (hP.2.1 i hlt).1 e198a (fun I1 f1 e1 => ?_)
    have F1 : ∀ a, a ≠ 198 → a ≠ 204 → I1 a = I' a := fun a z1 z2 => by rw [f1 a z1, am_u_ne z2]
    have hf1 : frP I I1 := hf.tr ⟨fun a z1 z2 z3 z4 z5 => F1 a z2 z4, fun k _ _ _ => by rw [F1 186 (by decide) (by decide)]⟩
    have hP1 : reP I1 L' st (gP st D (i + 1)) := by
      obtain ⟨p1, p2, p3, p4⟩ := hP
      refine ⟨by rw [F1 186 (by decide) (by decide)]; exact p1, fun k hk => ?_, by rw [F1 205 (by decide) (by decide)]; exact p3, by rw [F1 186 (by decide) (by decide)]; exact p4⟩
      obtain ⟨q1, q2, q3⟩ := p2 k hk
      refine ⟨q1, by rw [F1 203 (by decide) (by decide)]; exact q2, ?_⟩
      rw [f1 204 (by decide)]
      by_cases y : k = i
      · subst y
        rw [am_u_at, show gP st D (k + 1) k = true from decide_eq_true ⟨hk, Or.inr ⟨ed, by omega⟩⟩]; rfl
      · rw [am_u_nk y, q3, show gP st D (i + 1) k = gP st D i k from by unfold gP; rw [decide_eq_decide]; exact ⟨fun q => ⟨q.1, by omega⟩, fun q => ⟨q.1, by omega⟩⟩]
    obtain ⟨b1, b2⟩ := b01_2 (st.2.1 i).1 hp10 (st.2.1 i).2.1
    have egl : mL I1 (nI l) 2 = nI goal := by rw [show mL I1 (nI l) 2 = I1 198 (104 + 4 * l + 2) from mL_n (c := 2) (by omega), e1, fL_o (by omega)]; exact hgl
    have ekl : mL I1 (nI l) 0 = nI kd := by rw [show mL I1 (nI l) 0 = I1 198 (104 + 4 * l) from mL_n (c := 0) (by omega), e1, fL_o (by omega)]; exact hkl
    have go : ∀ (v8 v9 : Int32), ¬ ((st.2.1 i).2.1 = true ∧ (st.2.1 i).1 = goal) → v8 = bI ((st.2.1 i).2.1 = true) → v9 = plK kd (st.2.1 i) → ∀ (y6 : Int32) (y11 y12 y13 : Value), am_W am_all (am_run (d + 5)) e_Model_plans Q 166 [.ref 186, .int x1, .int (nI l), .int (nI lies), .int (nI D0), .int (nI i), .int y6, .int (nI (st.2.1 i).1), .int v8, .int v9, .int 0, y11, y12, y13] [] I1 L' (gg Lx ρ) 0 0 := by
      intro v8 v9 hng e8 e9 y6 y11 y12 y13
      subst e8 e9
      rw [if_neg hng] at h
      refine lp_mgR (I := I1) (st := st) (G := gP st D (i + 1)) (s := st.2.1 i) (D := D) hwf hn1 hn hk hl hD0 hfo hw (hf1.M hM) hW hlt rfl ed (fun k hk => decide_eq_false (fun q => by omega)) (fun k hk hg => by have := (of_decide_eq_true hg).2; omega) (fun I2 L2 y10 z11 z12 z13 hof f2 P2 e2 => ?_) (fun I2 L2 hot f2 e2 => ?_) n 0 I1 L' _ _ _ (by omega) ho frP.rf hP1 e1
      · have hX := plGo_x (Rs := Rs) (kd := kd) (lies := lies) (D0 := D0) (D := D) hwf hk hW hs hlt (by omega) n (Nat.le_refl _)
        rw [if_neg (by rw [hof]; decide)] at h
        have hGe : ∀ k, k < (plGo Rs f n kd lies D0 (st.2.1 i) D n st).1 → gP (plGo Rs f n kd lies D0 (st.2.1 i) D n st) D (i + 1) k = gP st D (i + 1) k := fun k hk => by
          unfold gP
          rw [decide_eq_decide]
          constructor
          · intro q
            have hle : (plGo Rs f n kd lies D0 (st.2.1 i) D n st).2.2.1 k ≤ D := by omega
            obtain ⟨a1, a2⟩ := hX.2.2.2.1 k hk hle
            rw [hX.2.2.2.2.1 k a1 a2] at q
            exact ⟨a1, q.2⟩
          · intro q
            refine ⟨hk, ?_⟩
            rw [hX.2.2.2.2.1 k q.1 (by omega)]; exact q.2
        have P2' : reP I2 L2 (plGo Rs f n kd lies D0 (st.2.1 i) D n st) (gP (plGo Rs f n kd lies D0 (st.2.1 i) D n st) D (i + 1)) := ⟨P2.1, fun k hk => by rw [hGe k hk]; exact P2.2.1 k hk, P2.2.2.1, P2.2.2.2⟩
        have hX0 := hX.1.1
        have hX1 := hX.2.1
        refine run_in (d := d + 4) rfl rfl ⟨rfl, rfl⟩ (sz_Model_least_0 (lp_lst hX.1 P2' ?_ (plGo Rs f n kd lies D0 (st.2.1 i) D n st).1 0 (Nat.zero_add _)))
        refine sy_Model_plans_337 (d := d + 3) _ _ _ _ _ _ _ _ _ _ _ _ _ _ ?_
        have hmu1 := muP_i (show i < 1001 by omega) hmu
        obtain ⟨l1, l2⟩ := lsG_p (st := plGo Rs f n kd lies D0 (st.2.1 i) D n st) (G := gP (plGo Rs f n kd lies D0 (st.2.1 i) D n st) D (i + 1)) (plGo Rs f n kd lies D0 (st.2.1 i) D n st).1
        cases eL : lsG (plGo Rs f n kd lies D0 (st.2.1 i) D n st) (gP (plGo Rs f n kd lies D0 (st.2.1 i) D n st) D (i + 1)) (plGo Rs f n kd lies D0 (st.2.1 i) D n st).1 with
        | none =>
          rw [plR_all hwf hk hmu1 hX.1 (by omega) hD (l1 eL)] at h
          have hneg : o1I none < 0 := by decide
          exact sy_Model_plans_80 (d := d + 3) _ _ _ _ _ _ _ _ _ _ _ _ _ (fun _ => h I2 L2 (hf1.tr f2) ⟨_, e2⟩) (fun z => absurd hneg z) (fun z => absurd hneg z)
        | some j =>
          obtain ⟨j1, j2, j3⟩ := l2 j eL
          have hjd := (hX.1.2.1 j j1).2
          have hgj : ¬ (j < (plGo Rs f n kd lies D0 (st.2.1 i) D n st).1 ∧ ((plGo Rs f n kd lies D0 (st.2.1 i) D n st).2.2.1 j < D ∨ ((plGo Rs f n kd lies D0 (st.2.1 i) D n st).2.2.1 j = D ∧ j < i + 1))) := of_decide_eq_false j2
          have hmu2 : muP ((plGo Rs f n kd lies D0 (st.2.1 i) D n st).2.2.1 j) j < F := by
            by_cases y : (plGo Rs f n kd lies D0 (st.2.1 i) D n st).2.2.1 j = D
            · rw [y]
              exact Nat.lt_of_le_of_lt (Nat.add_le_add_left (show 1001 - j ≤ 1001 - (i + 1) by omega) _) hmu1
            · refine Nat.lt_of_le_of_lt ?_ hmu1
              have hgt : D + 1 ≤ (plGo Rs f n kd lies D0 (st.2.1 i) D n st).2.2.1 j := by omega
              exact mu_c ⟨hgt, by omega⟩ (by omega)
          rw [plR_next hwf hk hX.1 j1 F F D (i + 1) hmu1 hmu2 (by omega) j2 j3] at h
          have hGj : ∀ k, k < (plGo Rs f n kd lies D0 (st.2.1 i) D n st).1 → gP (plGo Rs f n kd lies D0 (st.2.1 i) D n st) ((plGo Rs f n kd lies D0 (st.2.1 i) D n st).2.2.1 j) j k = gP (plGo Rs f n kd lies D0 (st.2.1 i) D n st) D (i + 1) k := fun k hk => by
            cases y : gP (plGo Rs f n kd lies D0 (st.2.1 i) D n st) D (i + 1) k with
            | true =>
              have := of_decide_eq_true y
              exact decide_eq_true ⟨hk, by omega⟩
            | false =>
              have := j3 k hk y
              exact decide_eq_false (fun q => by omega)
          exact ih _ _ j I2 L2 _ _ _ _ _ _ _ _ hmu2 j1 rfl hX.1 hof (hf1.tr f2) ⟨P2'.1, fun k hk => by rw [hGj k hk]; exact P2'.2.1 k hk, P2'.2.2.1, P2'.2.2.2⟩ ⟨_, e2⟩ h
      · rw [if_pos hot] at h
        exact h I2 L2 (hf1.tr f2) e2
    refine sy_Model_plans_99 (d := d + 3) _ _ _ _ _ _ _ _ _ _ _ _ _ _ (fun z => ?_) (fun _ => oL_n (c := 2) (by omega)) (fun _ _ => oL_n (c := 0) (by omega)) (fun z z2 => ?_) (fun _ _ => vp_in_nI (by omega) (by decide)) (fun z z2 => ?_)
    · have hb := fun q => z (b1.mpr q)
      rw [b2]
      refine go 0 0 (fun q => hb q.1) (by rw [bI_f hb]) ?_ _ _ _ _
      unfold plK; rw [if_neg hb]
    · have hb := b1.mp z
      rw [b2, egl] at z2
      rw [b2, ekl]
      refine go 1 _ (fun q => z2 (by rw [q.2])) (by rw [bI_t hb]) ?_ _ _ _ _
      unfold plK; rw [if_pos hb]
    · have hb := b1.mp z
      rw [b2, egl] at z2
      rw [if_pos ⟨hb, (nI_eq (by omega) (by omega)).mp z2⟩] at h
      rw [ei, (hP1.2.1 i hlt).2.1, ed]
      exact h I1 L' hf1 ⟨_, e1⟩
theorem lp_mp0 {I : am_I} {L : am_L} {x1 x2 : Int32} {x4 x5 x6 x7 x8 x9 x10 x11 x12 x13 : Value} (h : ∀ I', (∀ a, a ≠ 205 → I' a = I a) → (∀ k, k < 4096 → I' 205 k = 0) → am_W am_all (am_run (d + 2)) e_Model_plans Q 2 [.ref 186, .int x1, .int x2, .int 4096, x4, x5, x6, x7, x8, x9, x10, x11, x12, x13] [] I' L (gg Lx ρ) 0 0) : ∀ q k I', k + q = 4096 → (∀ a, a ≠ 205 → I' a = I a) → (∀ j, j < k → I' 205 j = 0) → am_W am_all (am_run (d + 2)) e_Model_plans Q 2 [.ref 186, .int x1, .int x2, .int (nI k), x4, x5, x6, x7, x8, x9, x10, x11, x12, x13] [] I' L (gg Lx ρ) 0 0 := by
  intro q
  induction q with
  | zero =>
    intro k I' e hf hv
    have e : k = 4096 := e
    subst e
    exact h I' hf hv
  | succ q ih =>
    intro k I' e hf hv
    have hy : nI k < 4096 := nI_lt (b := 4096) (by omega) (by decide)
    refine sy_Model_plans_2 _ _ _ _ _ _ _ _ _ _ _ _ _ (fun z => absurd hy z) (fun z => absurd hy z) (fun z => absurd hy z) (fun z => absurd hy z) (fun z => absurd hy z) (fun _ => vp_in_nI (by omega) (by decide)) (fun _ => ?_)
    rw [nI_clamp (by omega), nI_1]
    refine ih (k + 1) _ (by omega) (fun a z => by rw [am_u_ne z]; exact hf a z) (fun j hj => ?_)
    by_cases y : j = k
    · subst y; rw [am_u_at]
    · rw [am_u_nk y]; exact hv j (by omega)
theorem fL_0 {f : Nat → Int32} {n : Nat} (hwf : wfN f n) : fL f n (lst0 f n) = f := funext fun i => by
  by_cases z : i % 5 = 0 ∧ 10 ≤ i ∧ i < 10 + 5 * n
  · obtain ⟨j, hj, rfl⟩ : ∃ j, j < n ∧ i = 7 + 5 * j + 3 := ⟨(i - 10) / 5, by omega, by omega⟩
    obtain ⟨w1, w2, w3, w4, w5, w6, w7, w8, w9, w10⟩ := hwf.2 j hj
    rw [fL_3 hj, w9]
    congr 1
    unfold lst0
    rw [List.getD_eq_getElem?_getD, List.getElem?_map, List.getElem?_range (by omega)]; rfl
  · exact fL_o z
theorem sp_Model_plan {I : am_I} {L : am_L} {P n C m : Nat} {x y : Int32} (hwS : wfS Rs (I 198) P n C m) (hw : wfRs Rs) (hM : RCm I Rs)
    (h : ∀ I' L', frB n I I' → Q (some (.int (pPl Rs (I 198) n C m x y))) I' L' (gg Lx ρ)) : am_run (d + 7) m_Model_plan [.ref 186, .int x, .int y] I L (gg Lx ρ) Q := by
  obtain ⟨hn1, hn16, hwf⟩ := hwS.n
  have hC := hwS.C
  have hm := hwS.m
  have hP := hwS.P
  have hvc : mCa I x ↔ vN C x := by unfold mCa vN; rw [hC.1]
  have hvl : mLo I y ↔ vN m y := by unfold mLo vN; rw [hm.1]
  unfold pPl at h
  have rdc : mCa I x → oC x 1 ∧ (mC I x 1 < 0 ↔ I 198 (92 + 3 * x.toNatClampNeg + 1) = -1) := fun z => by
    obtain ⟨c, hc, rfl⟩ := ix_lt (by omega) (hvc.mp z).1 (hvc.mp z).2
    have e1 : mC I (nI c) 1 = I 198 (92 + 3 * c + 1) := mC_n (c := 1) (by omega)
    rw [nI_clamp (by omega), e1]
    refine ⟨oC_n (c := 1) (by omega), ?_⟩
    rcases (hwS.c c hc).2.2.1 with e | ⟨l, hl, e⟩
    · rw [e]; exact ⟨fun _ => rfl, fun _ => by decide⟩
    · rw [e]; exact ⟨fun q => absurd q (nI_pos (by omega)), fun q => absurd q (nI_nm1 (by omega))⟩
  have rdl' : mLo I y → oL y 1 ∧ oL y 2 ∧ (mWa I y ↔ pWa (I 198) y.toNatClampNeg) := fun z => by
    obtain ⟨l, hl, rfl⟩ := ix_lt (by omega) (hvl.mp z).1 (hvl.mp z).2
    rw [nI_clamp (by omega)]
    exact ⟨oL_n (c := 1) (by omega), oL_n (c := 2) (by omega), mWa_n hl hm.2 hwS.l⟩
  refine run_in rfl rfl ⟨rfl, rfl⟩ (sy_Model_plan_0 (d := d + 3) _ _ (fun z => ?_) (fun _ z => ?_) (fun z _ => (rdc z).1) (fun z z2 z3 => ?_) (fun _ z _ => (rdl' z).1) (fun _ z _ => (rdl' z).2.1) (fun z z2 z3 z4 => ?_) (fun _ z2 _ z4 => ?_))
  · rw [if_neg (fun q => z (hvc.mpr q.1))] at h; exact h I L frB.rf
  · rw [if_neg (fun q => z (hvl.mpr q.2.1))] at h; exact h I L frB.rf
  · rw [if_neg (fun q => z3 ((rdc z).2.mpr q.2.2.1))] at h; exact h I L frB.rf
  · rw [if_pos ⟨hvc.mp z, hvl.mp z2, (rdc z).2.mp z3, (rdl' z2).2.2.mp z4⟩] at h
    have hpw := (rdl' z2).2.2.mp z4
    obtain ⟨c, hc, rfl⟩ := ix_lt (by omega) (hvc.mp z).1 (hvc.mp z).2
    obtain ⟨l, hlm, rfl⟩ := ix_lt (by omega) (hvl.mp z2).1 (hvl.mp z2).2
    rw [nI_clamp (by omega)] at hpw
    rw [nI_clamp (by omega), nI_clamp (by omega)] at h
    obtain ⟨g1, g2, g3, g4, g5, g6, g7, g8⟩ := hwS.l l hlm
    obtain ⟨c1, c2, c3, c4, c5⟩ := hwS.c c hc
    have hlp := g4.resolve_left hpw.1
    refine sp_Model_keeps (d := d + 5) (fun I1 f1 k1 => sy_Model_plan_39 (d := d + 3) _ _ _ ?_)
    have e1 : I1 198 = I 198 := f1.1 198 (by decide) (by simp)
    /- after the plan -/
    have fin : ∀ (v : Int32) I2 L2, v = plR Rs (I 198) n (lK (I 198) l) (lP (I 198) l) (cD (I 198) c) (lG (I 198) l) 10000000 (plS0 (I 198) n (lP (I 198) l) (cS (I 198) c)) 0 0 → frP I1 I2 → (∃ ls, I2 198 = fL (I 198) n ls) → am_W am_all (am_run (d + 6)) e_Model_plan Q 45 [.ref 186, .int (nI c), .int (nI l), .null] [.int v] I2 L2 (gg Lx ρ) 0 0 := by
      intro v I2 L2 ev f2 ⟨ls, e2⟩
      subst ev
      refine sy_Model_plan_45 (d := d + 3) _ _ _ _ ?_
      refine sp_Model_putsBack (d := d + 5) (f := I 198) (fun k hk => by rw [f2.1 201 (by decide) (by decide) (by decide) (by decide) (by decide)]; exact k1 k hk) (fun k hk => by rw [e2, fL_o (by omega)]) (fun I3 f3 e3 => sy_Model_plan_50 (d := d + 3) _ _ _ ?_)
      refine h I3 L2 ⟨fun a z1 z2 => ?_, fun k hk => ?_, fun i _ => by rw [e3]⟩
      · rw [f3.1 a z1 (by simp; omega), f2.1 a z1 (by omega) (by omega) (by omega) (by omega), f1.1 a z1 (by simp; omega)]
      · rw [f3.2 k (by simp), f2.2 k (by omega) (by omega) (by omega), f1.2 k (by simp)]
    refine run_in rfl rfl ⟨rfl, rfl⟩ (sy_Model_plans_0 (d := d + 3) _ _ (lp_mp0 (d := d + 3) (I := I1) (fun I2 f2 v2 => ?_) 4096 0 I1 rfl (fun _ _ => rfl) (fun j hj => absurd hj (Nat.not_lt_zero _))))
    have hno : ¬ (4096 : Int32) < 4096 := by decide
    have F2 : ∀ a, a ≠ 186 → a ≠ 205 → am_u (am_u I2 186 35 0) 186 36 0 a = I1 a := fun a z1 z2 => by rw [am_u_ne z1, am_u_ne z1, f2 a z2]
    have e3 : am_u (am_u I2 186 35 0) 186 36 0 198 = I 198 := by rw [F2 198 (by decide) (by decide)]; exact e1
    have fP : frP I1 (am_u (am_u I2 186 35 0) 186 36 0) := ⟨fun a z1 _ _ _ z5 => F2 a z1 z5, fun k _ z2 z3 => by rw [am_u_nk z3, am_u_nk z2, f2 186 (by decide)]⟩
    have ec0 : mC (am_u (am_u I2 186 35 0) 186 36 0) (nI c) 0 = nI (cS (I 198) c) := by rw [show mC (am_u (am_u I2 186 35 0) 186 36 0) (nI c) 0 = am_u (am_u I2 186 35 0) 186 36 0 198 (92 + 3 * c) from mC_n (c := 0) (by omega), e3]; exact c1
    have ec2 : mC (am_u (am_u I2 186 35 0) 186 36 0) (nI c) 2 = nI (cD (I 198) c) := by rw [show mC (am_u (am_u I2 186 35 0) 186 36 0) (nI c) 2 = am_u (am_u I2 186 35 0) 186 36 0 198 (92 + 3 * c + 2) from mC_n (c := 2) (by omega), e3]; exact c4
    have el1 : mL (am_u (am_u I2 186 35 0) 186 36 0) (nI l) 1 = nI (lP (I 198) l) := by rw [show mL (am_u (am_u I2 186 35 0) 186 36 0) (nI l) 1 = am_u (am_u I2 186 35 0) 186 36 0 198 (104 + 4 * l + 1) from mL_n (c := 1) (by omega), e3]; exact hlp.1
    obtain ⟨s1, s2, s3, s4, s5⟩ := plS0_p (lies := lP (I 198) l) hwf c2
    have hs : okS n (cS (I 198) c, decide (cS (I 198) c = lP (I 198) l), lst0 (I 198) n) := ⟨c2, by unfold lst0; simp, lst0_7 hwf⟩
    have P0 : reP (am_u (am_u I2 186 35 0) 186 36 0) L (0, fun _ => (0, false, []), fun _ => 0, false) (fun _ => false) := ⟨by rw [am_u_nk (by decide), am_u_at]; rfl, fun k hk => absurd hk (Nat.not_lt_zero _), tb_0 (fun a ha => by rw [am_u_ne (by decide), am_u_ne (by decide)]; exact v2 a ha), by rw [am_u_at]; rfl⟩
    have go : ∀ v : Int32, v = bI (decide (cS (I 198) c = lP (I 198) l) = true) → am_run (d + 5) m_Model_numberOf [.ref 186, .int (nI (cS (I 198) c)), .int v] (am_u (am_u I2 186 35 0) 186 36 0) L (gg Lx ρ) (fun r I' L' G' => am_W am_all (am_run (d + 5)) e_Model_plans (fun r I' L' G' => am_W am_all (am_run (d + 6)) e_Model_plan Q 45 [.ref 186, .int (nI c), .int (nI l), .null] (r.toList ++ ([] : List Value)) I' L' G' 0 0) 73 [.ref 186, .int (nI c), .int (nI l), .int (nI (lP (I 198) l)), .int (nI (cD (I 198) c)), .null, .null, .null, .null, .null, .null, .null, .null, .null] (r.toList ++ ([.ref 186] : List Value)) I' L' G' 0 0) := by
      intro v ev
      refine sp_nO (d := d + 3) hn16 c2 ev (by unfold lst0; simp) (lst0_7 hwf) (by rw [e3]; exact hn1) (fun j hj => ?_) ?_
      · have := fL_3 (f := I 198) (ls := lst0 (I 198) n) hj
        rw [fL_0 hwf] at this
        rw [e3]; exact this
      · refine sy_Model_plans_73 (d := d + 3) _ _ _ _ _ _ _ _ _ _ _ _ _ _ ?_
        refine sp_comes (d := d + 3) (dd := 0) hn16 plW0 hs P0 (fun k hk => absurd hk (Nat.not_lt_zero _)) (fun _ _ => rfl) (by omega) (fun I3 L3 f3 gg3 l3 P3 => sy_Model_plans_77 (d := d + 3) _ _ _ _ _ _ _ _ _ _ _ _ _ ?_)
        have P3 : reP I3 L3 (plS0 (I 198) n (lP (I 198) l) (cS (I 198) c)) (fun _ => false) := P3
        have f03 : frP I1 I3 := fP.tr ⟨fun a z1 _ z3 z4 z5 => f3 a z1 z3 z4 z5, fun k _ z2 z3 => gg3 k z2 z3⟩
        refine lp_mpl (d := d) (I := I1) (goal := lG (I 198) l) hwf hn1 hn16 g3 hlp.2 c5 (by omega) (by omega) g5 g1 hwS.fo hw (f1.M (by simp) (by simp) hM) 10000000 _ 0 0 I3 L3 _ _ _ _ _ _ _ _ (by unfold muP; omega) (by omega) s4 s1 s2 f03 ⟨P3.1, fun k hk => ?_, P3.2.2.1, P3.2.2.2⟩ ⟨lst0 (I 198) n, by rw [f3 198 (by decide) (by decide) (by decide) (by decide), e3, fL_0 hwf]⟩ (fun I4 L4 f4 e4 => fin _ I4 L4 rfl f4 e4)
        have : gP (plS0 (I 198) n (lP (I 198) l) (cS (I 198) c)) 0 0 k = false := decide_eq_false (fun q => by omega)
        rw [this]; exact P3.2.1 k hk
    refine sy_Model_plans_2 (d := d + 3) _ _ _ _ _ _ _ _ _ _ _ _ _ (fun _ => oL_n (c := 1) (by omega)) (fun _ => oC_n (c := 2) (by omega)) (fun _ => oC_n (c := 0) (by omega)) (fun _ z => ?_) (fun _ z => ?_) (fun z => absurd z hno) (fun z => absurd z hno)
    · rw [ec0, el1] at z
      rw [ec0, el1, ec2]
      exact go 0 (by rw [decide_eq_false (fun q => z (by rw [q]))]; rfl)
    · rw [ec0, el1] at z
      rw [ec0, el1, ec2]
      have hlp2 := hlp.2
      exact go 1 (by rw [decide_eq_true ((nI_eq (by omega) (by omega)).mp z)]; rfl)
  · rw [if_neg (fun q => z4 ((rdl' z2).2.2.mpr q.2.2.2))] at h; exact h I L frB.rf
end PLZ
