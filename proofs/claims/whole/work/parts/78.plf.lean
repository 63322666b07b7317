/-! ===== plan of the class: the fewest days ===== -/
def muP (D i : Nat) : Nat := (9001 - D) * 1002 + (1001 - i)
theorem mu_a {A B F x y K : Nat} (e : A = B + 1) (hy : y < K + x) (h : A * K + x < F + 1) : B * K + y < F := by
  subst e
  rw [Nat.succ_mul] at h
  generalize B * K = z at h ⊢
  omega
theorem mu_b {z x y F : Nat} (e : x = y + 1) (h : z + x < F + 1) : z + y < F := by omega
theorem muP_D {D i F : Nat} (hD : D ≤ 9000) (hi : i ≤ 1000) (h : muP D i < F + 1) : muP (D + 1) 0 < F :=
  mu_a (A := 9001 - D) (x := 1001 - i) (K := 1002) (by omega) (by omega) h
theorem muP_i {D i F : Nat} (hi : i < 1001) (h : muP D i < F + 1) : muP D (i + 1) < F :=
  mu_b (x := 1001 - i) (by omega) h
section PLF1
variable {Rs : List (List (Nat × List Nat))} {f : Nat → Int32} {n kd lies D0 goal : Nat}
theorem plR_none {st : PSt} : ∀ F D i, (∀ k, k < st.1 → st.2.2.1 k < D) → plR Rs f n kd lies D0 goal F st D i = -2
  | 0, _, _, _ => rfl
  | F + 1, D, i, h => by
    unfold plR
    split
    · rfl
    · split
      · next z => rw [if_neg (by have := h i z; omega)]; exact plR_none F D (i + 1) h
      · exact plR_none F (D + 1) 0 (fun k hk => by have := h k hk; omega)
end PLF1
section PLF
variable {d Lx : Nat} {ρ : List (Nat × Nat)} {Q : am_Q} {Rs : List (List (Nat × List Nat))}
theorem lp_fd {I : am_I} {f fS : Nat → Int32} {n C m kd lies D0 goal l : Nat} {x2 : Int32} (hwf : wfN f n) (hn : n ≤ 16) (hk : kd ≤ 7) (hl : lies < 10) (hD0 : D0 ≤ 9999) (hg : goal < 10) (hm : m ≤ 8) (hlm : l < m) (hw : wfRs Rs) (hC : RCc I ρ Rs) (hS : stS I 94 fS n C m) (hgl : fS (104 + 4 * l + 2) = nI goal) : ∀ F (st : PSt) D i (I' : am_I) (L' : am_L), muP D i < F → D ≤ 9000 → i ≤ st.1 → plW n st → st.2.2.2 = false → (∀ a, ¬ (36 ≤ a ∧ a ≤ 45) → I' a = I a) → clP I' L' st → tlI I' f n → tdI I' kd lies D0 →
    (∀ I2 L2, (∀ a, ¬ (36 ≤ a ∧ a ≤ 45) → I2 a = I a) → Q (some (.int (plR Rs f n kd lies D0 goal F st D i))) I2 L2 (gg Lx ρ)) →
    am_W am_all (am_run (d + 4)) e_Planner_fewestDays Q 99 [.ref 36, .ref 94, .int x2, .int (nI l), .int (nI D), .int (nI i)] [] I' L' (gg Lx ρ) 0 0 := by
  intro F
  induction F with
  | zero => intro st D i I' L' hmu; exact absurd hmu (Nat.not_lt_zero _)
  | succ F ih =>
    intro st D i I' L' hmu hD hi hW ho hf hP hT htd h
    have h1000 := hW.1
    unfold plR at h
    rw [if_neg (show ¬ 9000 < D by omega)] at h
    by_cases hlt : i < st.1
    · rw [if_pos hlt] at h
      have hyes : nI i < I' 36 5 := by rw [hP.1]; exact nI_lt hlt (by omega)
      have h1 : nI i < 1000 := nI_lt (b := 1000) (by omega) (by decide)
      have hs := (hW.2.1 i hlt).1
      have hdi := (hW.2.1 i hlt).2
      obtain ⟨hh, hc⟩ := hPh_n hn hs (by omega) (hP.2.1 i hlt).1
      have e38 : I' 38 (nI i).toNatClampNeg = nI (st.2.2.1 i) := by rw [nI_clamp (by omega)]; exact (hP.2.1 i hlt).2
      have hmu1 : muP D (i + 1) < F := muP_i (by omega) hmu
      have hS' : stS I' 94 fS n C m := stS_fr (fun a h1 h2 => hf a (by omega)) hS
      have hC' : RCc I' ρ Rs := RCc_fr (hf 21 (by omega)) (fun a ha => hf a (by omega)) hC
      have egl : I' (94 + 12) (nI l).toNatClampNeg = nI goal := by rw [nI_clamp (by omega)]; exact (hS'.2.2.2.2.2.1 l hlm).2.2.1.trans hgl
      have go : st.2.2.1 i = D → ¬ ((st.2.1 i).2.1 = true ∧ (st.2.1 i).1 = goal) → am_run (d + 4) m_Planner_goThrough [.ref 36, .int (nI i)] I' L' (gg Lx ρ) (fun r I' L' G' => am_W am_all (am_run (d + 4)) e_Planner_fewestDays Q 164 [.ref 36, .ref 94, .int x2, .int (nI l), .int (nI D), .int (nI i)] (r.toList ++ ([] : List Value)) I' L' G' 0 0) := by
        intro ed hng
        rw [if_pos ed, if_neg hng] at h
        refine sp_goThrough (d := d) hwf hn hk hl hD0 hw hC' hW hlt ed hP hT htd (fun I2 L2 f2 P2 T2 t2 => ?_)
        have hX := plGo_x (Rs := Rs) (kd := kd) (lies := lies) (D0 := D0) (D := D) hwf hk hW hs hlt (by omega) n (Nat.le_refl _)
        have F2 : ∀ a, ¬ (36 ≤ a ∧ a ≤ 45) → I2 a = I a := fun a z => by rw [f2 a z]; exact hf a z
        refine sy_Planner_fewestDays_164 (d := d + 3) 94 _ _ _ _ (by decide) (fun z => ?_) (fun z => ?_)
        · rw [P2.2.2.2.1] at z
          have hof := bI0 z
          rw [if_neg hof] at h
          rw [nI_1]
          exact ih _ D (i + 1) I2 L2 hmu1 hD (by have := hX.2.1; omega) hX.1 (by
            cases q : (plGo Rs f n kd lies D0 (st.2.1 i) D n st).2.2.2 with
            | false => rfl
            | true => exact absurd q hof) F2 P2 T2 t2 h
        · rw [P2.2.2.2.1] at z
          rw [if_pos (bI1 z)] at h
          exact h I2 L2 F2
      refine sy_Planner_fewestDays_99 (d := d + 3) 94 _ _ _ _ (by decide) (fun z => absurd hyes z) (fun _ z => absurd h1 z) (fun _ _ => vp_in_nI (by omega) (by decide)) (fun _ _ z z2 => ?_) (fun _ _ _ _ => vp_in_nI (by omega) (by decide)) (fun _ _ z z2 z3 => ?_) (fun _ _ z z2 z3 => ?_) (fun _ _ z => ?_)
      · rw [e38] at z
        exact go ((nI_eq (by omega) (by omega)).mp z) (fun q => z2 (hh.mpr q.1))
      · rw [e38] at z
        rw [hc, egl] at z3
        exact go ((nI_eq (by omega) (by omega)).mp z) (fun q => z3 (by rw [q.2]))
      · rw [e38] at z
        rw [hc, egl] at z3
        have hs10 := hs.1
        rw [if_pos ((nI_eq (by omega) (by omega)).mp z), if_pos ⟨hh.mp z2, (nI_eq (by omega) (by omega)).mp z3⟩] at h
        exact h I' L' hf
      · rw [e38] at z
        rw [if_neg (fun q => z (by rw [q]))] at h
        rw [nI_1]
        exact ih st D (i + 1) I' L' hmu1 hD (by omega) hW ho hf hP hT htd h
    · rw [if_neg hlt] at h
      have hno : ¬ nI i < I' 36 5 := by rw [hP.1]; exact nI_nlt (by omega) (by omega)
      refine sy_Planner_fewestDays_99 (d := d + 3) 94 _ _ _ _ (by decide) (fun _ => ?_) (fun z => absurd z hno) (fun z => absurd z hno) (fun z => absurd z hno) (fun z => absurd z hno) (fun z => absurd z hno) (fun z => absurd z hno) (fun z => absurd z hno)
      rw [nI_1]
      have hP' := hP
      obtain ⟨p5, p2, p3, p7, mx, p6, pm, pd⟩ := hP'
      have hmu1 : muP (D + 1) 0 < F := muP_D hD (by omega) hmu
      refine sy_Planner_fewestDays_79 (d := d + 3) 94 _ _ _ _ (by decide) (fun z => ?_) (fun _ z => ?_) (fun _ z => ?_)
      · rw [p6] at z
        have : mx < D + 1 := Classical.byContradiction fun q => absurd z (nI_nlt (by omega) (by omega))
        rw [plR_none F (D + 1) 0 (fun k hk => by have := pd k hk; omega)] at h
        exact h I' L' hf
      · have : 9000 < D + 1 := Classical.byContradiction fun q => absurd z (nI_nlt (a := 9000) (by omega) (by decide))
        cases F with
        | zero => exact absurd hmu1 (Nat.not_lt_zero _)
        | succ F =>
          unfold plR at h
          rw [if_pos this] at h
          exact h I' L' hf
      · have : ¬ 9000 < D + 1 := fun q => z (nI_lt (a := 9000) q (by omega))
        exact ih st (D + 1) 0 I' L' hmu1 (by omega) (Nat.zero_le _) hW ho hf hP hT htd h
theorem lst0_g {f : Nat → Int32} {n j x : Nat} (h : (lst0 f n)[j]? = some x) : j < n ∧ x = rL f j := by
  unfold lst0 at h
  rw [List.getElem?_map] at h
  have hj : j < n := by
    apply Classical.byContradiction
    intro q
    rw [List.getElem?_eq_none (by simp; omega)] at h
    exact absurd h (by simp)
  rw [List.getElem?_range hj] at h
  exact ⟨hj, (Option.some.inj h).symm⟩
theorem lst0_7 {f : Nat → Int32} {n : Nat} (hwf : wfN f n) : ∀ x ∈ lst0 f n, x ≤ 7 := fun x hx => by
  unfold lst0 at hx
  obtain ⟨j, hj, e⟩ := List.mem_map.mp hx
  obtain ⟨w1, w2, w3, w4, w5, w6, w7, w8, w9, w10⟩ := hwf.2 j (List.mem_range.mp hj)
  rw [← e]; exact w10
theorem plW0 {n : Nat} : plW n (0, fun _ => (0, false, []), fun _ => 0, false) := ⟨by show 0 ≤ 1000; decide, fun k hk => absurd hk (Nat.not_lt_zero _), fun j k hj => absurd hj (Nat.not_lt_zero _)⟩
theorem plS0_p {f : Nat → Int32} {n lies p : Nat} (hwf : wfN f n) (hp : p < 10) : plW n (plS0 f n lies p) ∧ (plS0 f n lies p).2.2.2 = false ∧ (plS0 f n lies p).1 = 1 ∧ (plS0 f n lies p).2.2.1 0 = 0 ∧ (plS0 f n lies p).2.1 0 = (p, decide (p = lies), lst0 f n) := by
  have hs : okS n (p, decide (p = lies), lst0 f n) := ⟨hp, by unfold lst0; simp, lst0_7 hwf⟩
  have e : plS0 f n lies p = (0 + 1, fU (fun _ => (0, false, [])) 0 (p, decide (p = lies), lst0 f n), fU (fun _ => 0) 0 0, false) := by
    unfold plS0
    rw [plCm_n (fun k hk => absurd hk (Nat.not_lt_zero _)), if_pos (by show 0 < 1000; decide)]
  refine ⟨(plCm_w plW0 hs (Nat.zero_le _)).1, ?_, ?_, ?_, ?_⟩
  · rw [e]
  · rw [e]
  · rw [e]; show fU (fun _ => 0) 0 0 0 = 0; exact fU_at
  · rw [e]; show fU (fun _ => (0, false, [])) 0 (p, decide (p = lies), lst0 f n) 0 = _; exact fU_at
theorem sp_fewestDays {I : am_I} {L : am_L} {f : Nat → Int32} {P n C m c l : Nat} (hS : stS I 94 f n C m) (hwS : wfS Rs f P n C m) (hw : wfRs Rs) (hC : RCc I ρ Rs) (hc : c < C) (hlm : l < m) (hpw : pWa f l)
    (h : ∀ I' L', frA I I' → Q (some (.int (plR Rs f n (lK f l) (lP f l) (cD f c) (lG f l) 10000000 (plS0 f n (lP f l) (cS f c)) 0 0))) I' L' (gg Lx ρ)) : am_run (d + 5) m_Planner_fewestDays [.ref 36, .ref 94, .int (nI c), .int (nI l)] I L (gg Lx ρ) Q := by
  obtain ⟨hn1, hn16, hwf⟩ := hwS.n
  have hm := hwS.m
  have hP := hwS.P
  have hCc := hwS.C
  obtain ⟨g1, g2, g3, g4, g5, g6, g7, g8⟩ := hwS.l l hlm
  obtain ⟨c1, c2, c3, c4, c5⟩ := hwS.c c hc
  have hlp := g4.resolve_left hpw.1
  have ec : (nI c).toNatClampNeg = c := nI_clamp (by omega)
  have el : (nI l).toNatClampNeg = l := nI_clamp (by omega)
  refine run_in rfl rfl ⟨rfl, rfl⟩ (sy_Planner_fewestDays_0 (d := d + 3) 94 _ _ (by decide) ?_)
  refine sp_fill (d := d + 3) (x := 39) (N := 2048) rfl (by decide) (fun I1 f1 v1 => ?_)
  refine sy_Planner_fewestDays_8 (d := d + 3) 94 _ _ _ _ (by decide) (vp_in_nI (by omega) (by decide)) (vp_in_nI (by omega) (by decide)) ?_
  have S1 : stS I1 94 f n C m := stS_fr (fun a h1 h2 => f1 a (by simp; omega)) hS
  obtain ⟨q1, q2, q3, q4⟩ := S1.2.2.2.2.2.1 l hlm
  obtain ⟨r1, r2, r3⟩ := S1.2.2.2.2.1 c hc
  simp only [am_u_ne (show (94 + 10 : Nat) ≠ 36 by decide), am_u_ne (show (94 + 11 : Nat) ≠ 36 by decide), am_u_ne (show (94 + 9 : Nat) ≠ 36 by decide), ec, el, q1, q2, r3, g1, hlp.1, c4]
  generalize e2 : am_u (am_u (am_u (am_u (am_u (am_u I1 36 5 0) 36 6 0) 36 7 0) 36 8 (nI (lK f l))) 36 9 (nI (lP f l))) 36 10 (nI (cD f c)) = I2
  have F2 : ∀ a, a ≠ 36 → I2 a = I1 a := fun a z => by rw [← e2, am_u_ne z, am_u_ne z, am_u_ne z, am_u_ne z, am_u_ne z, am_u_ne z]
  have t2 : I2 36 5 = 0 ∧ I2 36 6 = 0 ∧ I2 36 7 = 0 ∧ tdI I2 (lK f l) (lP f l) (cD f c) := by
    rw [← e2]
    refine ⟨?_, ?_, ?_, ?_, ?_, ?_⟩
    · rw [am_u_nk (by decide), am_u_nk (by decide), am_u_nk (by decide), am_u_nk (by decide), am_u_nk (by decide), am_u_at]
    · rw [am_u_nk (by decide), am_u_nk (by decide), am_u_nk (by decide), am_u_nk (by decide), am_u_at]
    · rw [am_u_nk (by decide), am_u_nk (by decide), am_u_nk (by decide), am_u_at]
    · rw [am_u_nk (by decide), am_u_nk (by decide), am_u_at]
    · rw [am_u_nk (by decide), am_u_at]
    · rw [am_u_at]
  have S2 : stS I2 94 f n C m := stS_fr (fun a h1 h2 => F2 a (by omega)) S1
  refine sp_Roads_copy (d := d + 2) (r := 40) (by decide) (s := 95) (by decide) (by decide) S2.1 (by omega) (fun I3 f3 R3 => ?_)
  have F3 : ∀ a, ¬ (40 ≤ a ∧ a ≤ 45) → I3 a = I2 a := fun a z => f3 a (by simp; omega)
  have S3 : stS I3 94 f n C m := stS_fr (fun a h1 h2 => F3 a (by omega)) S2
  refine sy_Planner_fewestDays_64 (d := d + 3) 94 _ _ _ _ (by decide) (vp_in_nI (by omega) (by decide)) ?_
  rw [ec, (S3.2.2.2.2.1 c hc).1, c1]
  have T3 : tlI I3 f n := by
    obtain ⟨a1, a2, a3, a4, a5⟩ := R3
    exact ⟨a1, a2, a3, a4, fun j hj => ⟨(a5 j hj).1, (a5 j hj).2.1, (a5 j hj).2.2.1, (a5 j hj).2.2.2.2⟩⟩
  have td3 : tdI I3 (lK f l) (lP f l) (cD f c) := by unfold tdI; rw [F3 36 (by omega)]; exact t2.2.2.2
  have P3 : clP I3 L (0, fun _ => (0, false, []), fun _ => 0, false) := by
    refine ⟨by rw [F3 36 (by omega)]; exact t2.1, fun k hk => absurd hk (Nat.not_lt_zero _), tb_0 (fun a ha => ?_), by rw [F3 36 (by omega)]; exact t2.2.2.1, 0, by rw [F3 36 (by omega)]; exact t2.2.1, by omega, fun k hk => absurd hk (Nat.not_lt_zero _)⟩
    rw [F3 39 (by omega), F2 39 (by decide)]; exact v1 a ha
  have FI : ∀ a, ¬ (36 ≤ a ∧ a ≤ 45) → I3 a = I a := fun a z => by rw [F3 a (by omega), F2 a (by omega)]; exact f1 a (by simp; omega)
  refine sp_come (d := d + 2) (lies := lP f l) (ls := lst0 f n) (b := false) (dd := 0) hn16 c2 hlp.2 (by unfold lst0; simp) (lst0_7 hwf) plW0 P3 T3.2.1 (fun j x hx => ?_) td3.2.1 (Nat.zero_le _) (by omega) (fun I4 L4 f4 g4 l4 P4 => ?_)
  · obtain ⟨hj, ex⟩ := lst0_g hx
    obtain ⟨w1, w2, w3, w4, w5, w6, w7, w8, w9, w10⟩ := hwf.2 j hj
    rw [ex, ← w9]; exact (R3.2.2.2.2 j hj).2.2.2.1
  · obtain ⟨s1, s2, s3, s4, s5⟩ := plS0_p (lies := lP f l) hwf c2
    have hP3 := hP.2
    refine sy_Planner_fewestDays_76 (d := d + 3) 94 _ _ _ _ (by decide) ?_
    have P4 : clP I4 L4 (plS0 f n (lP f l) (cS f c)) := P4
    have hn79 : ¬ I4 36 6 < 0 := by
      obtain ⟨p5, p2, p3, p7, mx, p6, pm, pd⟩ := P4
      rw [p6]; exact nI_pos (by omega)
    refine sy_Planner_fewestDays_79 (d := d + 3) 94 _ _ _ _ (by decide) (fun z => absurd z hn79) (fun _ z => absurd z (by decide)) (fun _ _ => ?_)
    have F4 : ∀ a, ¬ (36 ≤ a ∧ a ≤ 45) → I4 a = I a := fun a z => by rw [f4 a (by omega) (by omega) (by omega)]; exact FI a z
    exact lp_fd (d := d) (I := I) (goal := lG f l) hwf hn16 g3 hlp.2 c5 (by omega) hm.2 hlm hw hC hS g5 10000000 _ 0 0 I4 L4 (by unfold muP; omega) (by omega) (Nat.zero_le _) s1 s2 F4 P4 (tlI_fr (fun a h1 h2 h3 => f4 a (by omega) (by omega) (by omega)) T3) ⟨by rw [g4 8 (by decide) (by decide) (by decide)]; exact td3.1, by rw [g4 9 (by decide) (by decide) (by decide)]; exact td3.2.1, by rw [g4 10 (by decide) (by decide) (by decide)]; exact td3.2.2⟩ (fun I5 L5 f5 => h I5 L5 (fun a z => f5 a (by omega)))
theorem sp_LL_plan {I : am_I} {L : am_L} {f : Nat → Int32} {P n C m : Nat} {x y : Int32} (hS : stS I 94 f n C m) (hwS : wfS Rs f P n C m) (hw : wfRs Rs) (hRC : RCc I ρ Rs)
    (h : ∀ I' L', frA I I' → Q (some (.int (pPl Rs f n C m x y))) I' L' (gg Lx ρ)) : am_run (d + 6) m_LL_plan [.ref 12, .int x, .int y] I L (gg Lx ρ) Q := by
  have hC := hwS.C
  have hm := hwS.m
  have hvc := hCa_v (x := x) hS hC.2
  have hvl := hLo_v (x := y) hS hm.2
  have rdc : hCa I 94 x → I 102 x.toNatClampNeg = f (92 + 3 * x.toNatClampNeg + 1) := fun z => by
    obtain ⟨c, hc, rfl⟩ := ix_lt (by omega) (hvc.mp z).1 (hvc.mp z).2
    rw [nI_clamp (by omega)]; exact (hS.2.2.2.2.1 c hc).2.1
  have hwa : ∀ l, l < m → (hWa I 94 (nI l) ↔ pWa f l) := fun l hl => hWa_n hS hl hm.2
  unfold pPl at h
  refine run_in rfl rfl ⟨rfl, rfl⟩ (sy_LL_plan_0 (d := d + 3) _ _ (fun z => ?_) (fun z => vin z.1 z.2.2 rfl (by decide)) (fun z z2 => ?_) (fun z z2 z3 => ?_) (fun z z2 z3 => ?_))
  · rw [if_neg (fun q => z (hvc.mpr q.1))] at h; exact h I L frA.rf
  · rw [rdc z] at z2
    rw [if_neg (fun q => z2 q.2.2.1)] at h; exact h I L frA.rf
  · rw [rdc z] at z2
    have z4 := hvl.mp z3.1
    obtain ⟨c, hc, rfl⟩ := ix_lt (by omega) (hvc.mp z).1 (hvc.mp z).2
    obtain ⟨l, hl, rfl⟩ := ix_lt (by omega) z4.1 z4.2
    have hp := (hwa l hl).mp z3
    rw [nI_clamp (by omega)] at z2
    rw [nI_clamp (by omega), nI_clamp (by omega), if_pos ⟨hvc.mp z, z4, z2, hp⟩] at h
    exact sp_fewestDays (d := d) hS hwS hw hRC hc hl hp (fun I1 L1 f1 => sy_LL_plan_50 (d := d + 3) _ _ _ (h I1 L1 f1))
  · rw [if_neg (fun q => z3 (by
      obtain ⟨l, hl, rfl⟩ := ix_lt (by omega) q.2.1.1 q.2.1.2
      have := q.2.2.2
      rw [nI_clamp (by omega)] at this
      exact (hwa l hl).mpr this))] at h; exact h I L frA.rf
end PLF
