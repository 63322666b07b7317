/-! ===== one place of the state; lays, takes, found, seed, force ===== -/
section ONE
variable {d Lx : Nat} {ρ : List (Nat × Nat)} {Q : am_Q} {Rs : List (List (Nat × List Nat))}
theorem stS_carry {I : am_I} {f : Nat → Int32} {n C m q : Nat} {v : Int32} (hS : stS I 94 f n C m) (hn : n ≤ 16) (hC : C ≤ 4) (hm : m ≤ 8) (hq : q < C) : stS (am_u I 102 q v) 94 (up1 f (92 + 3 * q + 1) v) n C m := by
  have ga : ∀ a, a ≠ 102 → am_u I 102 q v a = I a := fun a ha => am_u_ne ha
  have gf : ∀ i, i ≠ 92 + 3 * q + 1 → up1 f (92 + 3 * q + 1) v i = f i := fun i hi => up1_ne hi
  obtain ⟨⟨g1, g2, g3, g4, g5⟩, h2, h3, h4, h5, h6, h7⟩ := hS
  refine ⟨⟨?_, ?_, ?_, ?_, fun i hi => ?_⟩, ?_, ?_, ?_, fun e he => ?_, fun e he => ?_, fun e he => ?_⟩
  · rw [ga _ (by decide), gf _ (by omega)]; exact g1
  · rw [ga _ (by decide)]; exact g2
  · rw [ga _ (by decide), gf _ (by omega)]; exact g3
  · rw [ga _ (by decide), gf _ (by omega)]; exact g4
  · rw [ga _ (by decide), ga _ (by decide), ga _ (by decide), ga _ (by decide), ga _ (by decide), gf _ (by omega), gf _ (by omega), gf _ (by omega), gf _ (by omega), gf _ (by omega)]; exact g5 i hi
  · rw [ga _ (by decide)]; exact h2
  · rw [ga _ (by decide)]; exact h3
  · rw [ga _ (by decide), gf _ (by omega)]; exact h4
  · obtain ⟨r1, r2, r3⟩ := h5 e he
    refine ⟨?_, ?_, ?_⟩
    · rw [ga _ (by decide), gf _ (by omega)]; exact r1
    · by_cases z : e = q
      · subst z; rw [am_u_at, up1_at]
      · rw [am_u_nk z, gf _ (by omega)]; exact r2
    · rw [ga _ (by decide), gf _ (by omega)]; exact r3
  · rw [ga _ (by decide), ga _ (by decide), ga _ (by decide), ga _ (by decide), gf _ (by omega), gf _ (by omega), gf _ (by omega), gf _ (by omega)]; exact h6 e he
  · rw [ga _ (by decide), gf _ (by omega)]; exact h7 e he
theorem stS_lies {I : am_I} {f : Nat → Int32} {n C m q : Nat} {v : Int32} (hS : stS I 94 f n C m) (hn : n ≤ 16) (hC : C ≤ 4) (hm : m ≤ 8) (hq : q < m) : stS (am_u I 105 q v) 94 (up1 f (104 + 4 * q + 1) v) n C m := by
  have ga : ∀ a, a ≠ 105 → am_u I 105 q v a = I a := fun a ha => am_u_ne ha
  have gf : ∀ i, i ≠ 104 + 4 * q + 1 → up1 f (104 + 4 * q + 1) v i = f i := fun i hi => up1_ne hi
  obtain ⟨⟨g1, g2, g3, g4, g5⟩, h2, h3, h4, h5, h6, h7⟩ := hS
  refine ⟨⟨?_, ?_, ?_, ?_, fun i hi => ?_⟩, ?_, ?_, ?_, fun e he => ?_, fun e he => ?_, fun e he => ?_⟩
  · rw [ga _ (by decide), gf _ (by omega)]; exact g1
  · rw [ga _ (by decide)]; exact g2
  · rw [ga _ (by decide), gf _ (by omega)]; exact g3
  · rw [ga _ (by decide), gf _ (by omega)]; exact g4
  · rw [ga _ (by decide), ga _ (by decide), ga _ (by decide), ga _ (by decide), ga _ (by decide), gf _ (by omega), gf _ (by omega), gf _ (by omega), gf _ (by omega), gf _ (by omega)]; exact g5 i hi
  · rw [ga _ (by decide)]; exact h2
  · rw [ga _ (by decide)]; exact h3
  · rw [ga _ (by decide), gf _ (by omega)]; exact h4
  · rw [ga _ (by decide), ga _ (by decide), ga _ (by decide), gf _ (by omega), gf _ (by omega), gf _ (by omega)]; exact h5 e he
  · obtain ⟨r1, r2, r3, r4⟩ := h6 e he
    refine ⟨?_, ?_, ?_, ?_⟩
    · rw [ga _ (by decide), gf _ (by omega)]; exact r1
    · by_cases z : e = q
      · subst z; rw [am_u_at, up1_at]
      · rw [am_u_nk z, gf _ (by omega)]; exact r2
    · rw [ga _ (by decide), gf _ (by omega)]; exact r3
    · rw [ga _ (by decide), gf _ (by omega)]; exact r4
  · rw [ga _ (by decide), gf _ (by omega)]; exact h7 e he
theorem stS_seen {I : am_I} {f : Nat → Int32} {n C m q : Nat} {v : Int32} (hS : stS I 94 f n C m) (hn : n ≤ 16) (hC : C ≤ 4) (hm : m ≤ 8) (hq : q < n) : stS (am_u I 108 q v) 94 (up1 f (136 + q) v) n C m := by
  have ga : ∀ a, a ≠ 108 → am_u I 108 q v a = I a := fun a ha => am_u_ne ha
  have gf : ∀ i, i ≠ 136 + q → up1 f (136 + q) v i = f i := fun i hi => up1_ne hi
  obtain ⟨⟨g1, g2, g3, g4, g5⟩, h2, h3, h4, h5, h6, h7⟩ := hS
  refine ⟨⟨?_, ?_, ?_, ?_, fun i hi => ?_⟩, ?_, ?_, ?_, fun e he => ?_, fun e he => ?_, fun e he => ?_⟩
  · rw [ga _ (by decide), gf _ (by omega)]; exact g1
  · rw [ga _ (by decide)]; exact g2
  · rw [ga _ (by decide), gf _ (by omega)]; exact g3
  · rw [ga _ (by decide), gf _ (by omega)]; exact g4
  · rw [ga _ (by decide), ga _ (by decide), ga _ (by decide), ga _ (by decide), ga _ (by decide), gf _ (by omega), gf _ (by omega), gf _ (by omega), gf _ (by omega), gf _ (by omega)]; exact g5 i hi
  · rw [ga _ (by decide)]; exact h2
  · rw [ga _ (by decide)]; exact h3
  · rw [ga _ (by decide), gf _ (by omega)]; exact h4
  · rw [ga _ (by decide), ga _ (by decide), ga _ (by decide), gf _ (by omega), gf _ (by omega), gf _ (by omega)]; exact h5 e he
  · rw [ga _ (by decide), ga _ (by decide), ga _ (by decide), ga _ (by decide), gf _ (by omega), gf _ (by omega), gf _ (by omega), gf _ (by omega)]; exact h6 e he
  · by_cases z : e = q
    · subst z; rw [am_u_at, up1_at]
    · rw [am_u_nk z, gf _ (by omega)]; exact h7 e he
theorem stS_x {I : am_I} {f : Nat → Int32} {n C m : Nat} {v : Int32} (hS : stS I 94 f n C m) (hn : n ≤ 16) (hC : C ≤ 4) (hm : m ≤ 8)  : stS (am_u I 94 11 v) 94 (up1 f (5) v) n C m := by
  have ga : ∀ a, a ≠ 94 → am_u I 94 11 v a = I a := fun a ha => am_u_ne ha
  have gf : ∀ i, i ≠ 5 → up1 f (5) v i = f i := fun i hi => up1_ne hi
  obtain ⟨⟨g1, g2, g3, g4, g5⟩, h2, h3, h4, h5, h6, h7⟩ := hS
  refine ⟨⟨?_, ?_, ?_, ?_, fun i hi => ?_⟩, ?_, ?_, ?_, fun e he => ?_, fun e he => ?_, fun e he => ?_⟩
  · rw [ga _ (by decide), gf _ (by omega)]; exact g1
  · rw [ga _ (by decide)]; exact g2
  · rw [ga _ (by decide), gf _ (by omega)]; exact g3
  · rw [ga _ (by decide), gf _ (by omega)]; exact g4
  · rw [ga _ (by decide), ga _ (by decide), ga _ (by decide), ga _ (by decide), ga _ (by decide), gf _ (by omega), gf _ (by omega), gf _ (by omega), gf _ (by omega), gf _ (by omega)]; exact g5 i hi
  · rw [am_u_nk (by decide)]; exact h2
  · rw [am_u_nk (by decide)]; exact h3
  · rw [am_u_at, up1_at]
  · rw [ga _ (by decide), ga _ (by decide), ga _ (by decide), gf _ (by omega), gf _ (by omega), gf _ (by omega)]; exact h5 e he
  · rw [ga _ (by decide), ga _ (by decide), ga _ (by decide), ga _ (by decide), gf _ (by omega), gf _ (by omega), gf _ (by omega), gf _ (by omega)]; exact h6 e he
  · rw [ga _ (by decide), gf _ (by omega)]; exact h7 e he
theorem stS_fo {I : am_I} {f : Nat → Int32} {n C m : Nat} {v : Int32} (hS : stS I 94 f n C m) (hn : n ≤ 16) (hC : C ≤ 4) (hm : m ≤ 8)  : stS (am_u I 95 8 v) 94 (up1 f (6) v) n C m := by
  have ga : ∀ a, a ≠ 95 → am_u I 95 8 v a = I a := fun a ha => am_u_ne ha
  have gf : ∀ i, i ≠ 6 → up1 f (6) v i = f i := fun i hi => up1_ne hi
  obtain ⟨⟨g1, g2, g3, g4, g5⟩, h2, h3, h4, h5, h6, h7⟩ := hS
  refine ⟨⟨?_, ?_, ?_, ?_, fun i hi => ?_⟩, ?_, ?_, ?_, fun e he => ?_, fun e he => ?_, fun e he => ?_⟩
  · rw [am_u_nk (by decide), gf _ (by omega)]; exact g1
  · rw [am_u_nk (by decide)]; exact g2
  · rw [am_u_nk (by decide), gf _ (by omega)]; exact g3
  · rw [am_u_at, up1_at]
  · rw [ga _ (by decide), ga _ (by decide), ga _ (by decide), ga _ (by decide), ga _ (by decide), gf _ (by omega), gf _ (by omega), gf _ (by omega), gf _ (by omega), gf _ (by omega)]; exact g5 i hi
  · rw [ga _ (by decide)]; exact h2
  · rw [ga _ (by decide)]; exact h3
  · rw [ga _ (by decide), gf _ (by omega)]; exact h4
  · rw [ga _ (by decide), ga _ (by decide), ga _ (by decide), gf _ (by omega), gf _ (by omega), gf _ (by omega)]; exact h5 e he
  · rw [ga _ (by decide), ga _ (by decide), ga _ (by decide), ga _ (by decide), gf _ (by omega), gf _ (by omega), gf _ (by omega), gf _ (by omega)]; exact h6 e he
  · rw [ga _ (by decide), gf _ (by omega)]; exact h7 e he
theorem up1_comm {f : Nat → Int32} {i j : Nat} {v w : Int32} (h : i ≠ j) : up1 (up1 f i v) j w = up1 (up1 f j w) i v := funext fun k => by
  unfold up1
  by_cases e1 : k = j
  · by_cases e2 : k = i
    · exact absurd (e2.symm.trans e1) h
    · simp only [if_pos e1, if_neg e2]
  · by_cases e2 : k = i
    · simp only [if_neg e1, if_pos e2]
    · simp only [if_neg e1, if_neg e2]
theorem sp_LL_lay {I : am_I} {L : am_L} {f : Nat → Int32} {P n C m : Nat} {x : Int32} (hS : stS I 94 f n C m) (hwS : wfS Rs f P n C m)
    (h : ∀ I', frN I I' → stS I' 94 (pLy f C x).2 n C m → Q (some (.int (pLy f C x).1)) I' L (gg Lx ρ)) : am_run (d + 2) m_LL_lay [.ref 12, .int x] I L (gg Lx ρ) Q := by
  have hC := hwS.C
  have hm := hwS.m
  have hvc := hCa_v (x := x) hS hC.2
  unfold pLy at h
  refine run_in rfl rfl ⟨rfl, rfl⟩ (sy_LL_lay_0 _ (fun z => ?_) (fun z => vin z.1 z.2.2 rfl (by decide)) (fun _ z2 => vin z2.1 z2.2.2 rfl (by decide)) (fun z z2 => ?_) (fun z z2 => ?_))
  · rw [if_neg (fun q => z (hvc.mpr q.1))] at h; exact h I frN.rf hS
  · obtain ⟨c, hc, rfl⟩ := ix_lt (by omega) (hvc.mp z).1 (hvc.mp z).2
    obtain ⟨q1, q2, q3⟩ := hS.2.2.2.2.1 c hc
    rw [nI_clamp (by omega), q2] at z2
    obtain ⟨l, hl, e⟩ := ix_lt (by omega) ((hLo_v hS hm.2).mp z2).1 ((hLo_v hS hm.2).mp z2).2
    rw [nI_clamp (by omega), e, if_pos ⟨hvc.mp z, nI_nm1 (by omega)⟩] at h
    dsimp only at h
    rw [nI_clamp (by omega)] at h
    rw [nI_clamp (n := c) (by omega), q2, e, q1, nI_clamp (n := l) (by omega)]
    refine h _ ((frN.rf.u (by omega)).u (by omega)) ?_
    rw [up1_comm (by omega)]
    exact stS_lies (stS_carry hS hwS.n.2.1 hC.2 hm.2 hc) hwS.n.2.1 hC.2 hm.2 hl
  · obtain ⟨c, hc, rfl⟩ := ix_lt (by omega) (hvc.mp z).1 (hvc.mp z).2
    obtain ⟨q1, q2, q3⟩ := hS.2.2.2.2.1 c hc
    rw [nI_clamp (by omega), q2] at z2
    have e : f (92 + 3 * c + 1) = -1 := by
      rcases (hwS.c c hc).2.2.1 with e | ⟨l, hl, e⟩
      · exact e
      · exact absurd (by rw [e]; exact hLo_n hS hl hm.2) z2
    rw [nI_clamp (by omega), if_neg (fun q => q.2 e)] at h
    exact h I frN.rf hS
theorem sp_Model_take {I : am_I} {L : am_L} {P n C m : Nat} {x y : Int32} (hwS : wfS Rs (I 198) P n C m)
    (h : ∀ I', frO I I' → I' 198 = (pTk (I 198) C m x y).2 → Q (some (.int (pTk (I 198) C m x y).1)) I' L (gg Lx ρ)) : am_run (d + 2) m_Model_take [.ref 186, .int x, .int y] I L (gg Lx ρ) Q := by
  have hC := hwS.C
  have hm := hwS.m
  have hvc : mCa I x ↔ vN C x := by unfold mCa vN; rw [hC.1]
  have hvl : mLo I y ↔ vN m y := by unfold mLo vN; rw [hm.1]
  have rdc : mCa I x → (∃ c, c < C ∧ x = nI c) ∧ mC I x 0 = I 198 (92 + 3 * x.toNatClampNeg) ∧ mC I x 1 = I 198 (92 + 3 * x.toNatClampNeg + 1) ∧ (mC I x 1 < 0 ↔ I 198 (92 + 3 * x.toNatClampNeg + 1) = -1) := fun z => by
    obtain ⟨c, hc, rfl⟩ := ix_lt (by omega) (hvc.mp z).1 (hvc.mp z).2
    have e1 : mC I (nI c) 1 = I 198 (92 + 3 * c + 1) := mC_n (c := 1) (by omega)
    rw [nI_clamp (by omega)]
    refine ⟨⟨c, hc, rfl⟩, mC_n (c := 0) (by omega), e1, ?_⟩
    rw [e1]
    rcases (hwS.c c hc).2.2.1 with e | ⟨l, hl, e⟩
    · rw [e]; exact ⟨fun _ => rfl, fun _ => by decide⟩
    · rw [e]; exact ⟨fun q => absurd q (nI_pos (by omega)), fun q => absurd q (nI_nm1 (by omega))⟩
  have rdl' : mLo I y → (∃ l, l < m ∧ y = nI l) ∧ mL I y 1 = I 198 (104 + 4 * y.toNatClampNeg + 1) := fun z => by
    obtain ⟨l, hl, rfl⟩ := ix_lt (by omega) (hvl.mp z).1 (hvl.mp z).2
    rw [nI_clamp (by omega)]; exact ⟨⟨l, hl, rfl⟩, mL_n (c := 1) (by omega)⟩
  have k93 : ∀ c : Nat, (92 + (3 * nI c) : Int32) + 1 = nI (92 + 3 * c + 1) := fun c => by rw [show (92 : Int32) = nI 92 from rfl, show (3 : Int32) = nI 3 from rfl, pk_mul, nI_add, nI_1]
  have k105 : ∀ l : Nat, (104 + (4 * nI l) : Int32) + 1 = nI (104 + 4 * l + 1) := fun l => by rw [show (104 : Int32) = nI 104 from rfl, show (4 : Int32) = nI 4 from rfl, pk_mul, nI_add, nI_1]
  unfold pTk at h
  refine run_in rfl rfl ⟨rfl, rfl⟩ (sy_Model_take_0 _ _ (fun z => ?_) (fun _ z => ?_) (fun z _ => ?_) (fun z z2 z3 => ?_) (fun _ z2 _ => ?_) (fun z _ _ => ?_) (fun z _ _ _ => ?_) (fun _ z2 _ _ => ?_) (fun z z2 z3 z4 => ?_) (fun z z2 z3 z4 => ?_))
  · rw [if_neg (fun q => z (hvc.mpr q.1))] at h; exact h I frO.rf rfl
  · rw [if_neg (fun q => z (hvl.mpr q.2.1))] at h; exact h I frO.rf rfl
  · obtain ⟨⟨c, hc, rfl⟩, _⟩ := rdc z; exact oC_n (c := 1) (by omega)
  · rw [if_neg (fun q => z3 ((rdc z).2.2.2.mpr q.2.2.1))] at h; exact h I frO.rf rfl
  · obtain ⟨⟨l, hl, rfl⟩, _⟩ := rdl' z2; exact oL_n (c := 1) (by omega)
  · obtain ⟨⟨c, hc, rfl⟩, _⟩ := rdc z; exact oC_n (c := 0) (by omega)
  · obtain ⟨⟨c, hc, rfl⟩, _⟩ := rdc z; rw [k93]; exact vp_in_nI (by omega) (by decide)
  · obtain ⟨⟨l, hl, rfl⟩, _⟩ := rdl' z2; rw [k105]; exact vp_in_nI (by omega) (by decide)
  · rw [(rdl' z2).2, (rdc z).2.1] at z4
    rw [if_pos ⟨hvc.mp z, hvl.mp z2, (rdc z).2.2.2.mp z3, z4⟩] at h
    obtain ⟨⟨c, hc, rfl⟩, _⟩ := rdc z
    obtain ⟨⟨l, hl, rfl⟩, _⟩ := rdl' z2
    rw [k93, k105, nI_clamp (by omega), nI_clamp (by omega)]
    rw [nI_clamp (by omega), nI_clamp (by omega)] at h
    exact h _ frO.rf.u.u (by rw [am_u198, am_u198])
  · rw [(rdl' z2).2, (rdc z).2.1] at z4
    rw [if_neg (fun q => z4 q.2.2.2)] at h; exact h I frO.rf rfl
theorem sp_Model_lay {I : am_I} {L : am_L} {P n C m : Nat} {x : Int32} (hwS : wfS Rs (I 198) P n C m)
    (h : ∀ I', frO I I' → I' 198 = (pLy (I 198) C x).2 → Q (some (.int (pLy (I 198) C x).1)) I' L (gg Lx ρ)) : am_run (d + 2) m_Model_lay [.ref 186, .int x] I L (gg Lx ρ) Q := by
  have hC := hwS.C
  have hm := hwS.m
  have hvc : mCa I x ↔ vN C x := by unfold mCa vN; rw [hC.1]
  have rdc : mCa I x → ∃ c, c < C ∧ x = nI c ∧ mC I x 0 = I 198 (92 + 3 * c) ∧ mC I x 1 = I 198 (92 + 3 * c + 1) := fun z => by
    obtain ⟨c, hc, rfl⟩ := ix_lt (by omega) (hvc.mp z).1 (hvc.mp z).2
    exact ⟨c, hc, rfl, mC_n (c := 0) (by omega), mC_n (c := 1) (by omega)⟩
  have rl : ∀ c, c < C → ¬ I 198 (92 + 3 * c + 1) < 0 → ∃ l, l < m ∧ I 198 (92 + 3 * c + 1) = nI l := fun c hc z => by
    rcases (hwS.c c hc).2.2.1 with e | e
    · rw [e] at z; exact absurd (by decide) z
    · exact e
  have k93 : ∀ c : Nat, (92 + (3 * nI c) : Int32) + 1 = nI (92 + 3 * c + 1) := fun c => by rw [show (92 : Int32) = nI 92 from rfl, show (3 : Int32) = nI 3 from rfl, pk_mul, nI_add, nI_1]
  have k105 : ∀ l : Nat, (104 + (4 * nI l) : Int32) + 1 = nI (104 + 4 * l + 1) := fun l => by rw [show (104 : Int32) = nI 104 from rfl, show (4 : Int32) = nI 4 from rfl, pk_mul, nI_add, nI_1]
  unfold pLy at h
  refine run_in rfl rfl ⟨rfl, rfl⟩ (sy_Model_lay_0 _ (fun z => ?_) (fun z => ?_) (fun z _ => ?_) (fun z z2 => ?_) (fun z _ => ?_) (fun z z2 => ?_) (fun z z2 => ?_))
  · rw [if_neg (fun q => z (hvc.mpr q.1))] at h; exact h I frO.rf rfl
  · obtain ⟨c, hc, rfl, _⟩ := rdc z; exact oC_n (c := 1) (by omega)
  · obtain ⟨c, hc, rfl, _⟩ := rdc z; exact oC_n (c := 0) (by omega)
  · obtain ⟨c, hc, rfl, e0, e1⟩ := rdc z
    rw [e1] at z2 ⊢
    obtain ⟨l, hl, e⟩ := rl c hc z2
    rw [e, k105]; exact vp_in_nI (by omega) (by decide)
  · obtain ⟨c, hc, rfl, _⟩ := rdc z; rw [k93]; exact vp_in_nI (by omega) (by decide)
  · obtain ⟨c, hc, rfl, e0, e1⟩ := rdc z
    rw [e1] at z2 ⊢
    obtain ⟨l, hl, e⟩ := rl c hc z2
    rw [nI_clamp (by omega), e, if_pos ⟨hvc.mp z, nI_nm1 (by omega)⟩] at h
    dsimp only at h
    rw [nI_clamp (by omega)] at h
    rw [e, e0, k105, k93, nI_clamp (by omega), nI_clamp (by omega)]
    exact h _ frO.rf.u.u (by rw [am_u198, am_u198])
  · obtain ⟨c, hc, rfl, e0, e1⟩ := rdc z
    rw [e1] at z2
    rw [nI_clamp (by omega), if_neg (fun q => q.2 (by
      rcases (hwS.c c hc).2.2.1 with e | ⟨l, hl, e⟩
      · exact e
      · rw [e] at z2; exact absurd z2 (nI_pos (by omega))))] at h
    exact h I frO.rf rfl
def pFo (f : Nat → Int32) (n : Nat) (x v : Int32) : Int32 × (Nat → Int32) := if vN n x ∧ ¬ v < -1 ∧ ¬ 7 < v then (1, up1 f (136 + x.toNatClampNeg) v) else (0, f)
def pSd (f : Nat → Int32) (v : Int32) : Int32 × (Nat → Int32) := if v < 0 then (-1, f) else (f 5, up1 f 5 v)
def pFc (Rs : List (List (Nat × List Nat))) (f : Nat → Int32) (v : Int32) : Int32 × (Nat → Int32) := if v = -1 ∨ vN Rs.length v then (f 6, up1 f 6 v) else (-2, f)
theorem sp_LL_found {I : am_I} {L : am_L} {f : Nat → Int32} {P n C m : Nat} {x v : Int32} (hS : stS I 94 f n C m) (hwS : wfS Rs f P n C m)
    (h : ∀ I', frN I I' → stS I' 94 (pFo f n x v).2 n C m → Q (some (.int (pFo f n x v).1)) I' L (gg Lx ρ)) : am_run (d + 2) m_LL_found [.ref 12, .int x, .int v] I L (gg Lx ρ) Q := by
  obtain ⟨hn1, hn16, hwf⟩ := hwS.n
  have hv := hRd_v (x := x) hS.1 (by omega)
  unfold pFo at h
  refine run_in rfl rfl ⟨rfl, rfl⟩ (sy_LL_found_0 _ _ (fun z => ?_) (fun _ z => ?_) (fun z _ _ => ?_) (fun z z2 z3 => ?_) (fun _ _ z => ?_))
  · rw [if_neg (fun q => z (hv.mpr q.1))] at h; exact h I frN.rf hS
  · rw [if_neg (fun q => q.2.1 z)] at h; exact h I frN.rf hS
  · obtain ⟨j, hj, rfl⟩ := ix_lt (by omega) (hv.mp z).1 (hv.mp z).2
    exact vp_in_nI (by omega) (by decide)
  · rw [if_pos ⟨hv.mp z, z2, z3⟩] at h
    obtain ⟨j, hj, rfl⟩ := ix_lt (by omega) (hv.mp z).1 (hv.mp z).2
    rw [nI_clamp (by omega)] at h ⊢
    exact h _ (frN.rf.u (by omega)) (stS_seen hS hn16 hwS.C.2 hwS.m.2 hj)
  · rw [if_neg (fun q => q.2.2 z)] at h; exact h I frN.rf hS
theorem sp_Model_found {I : am_I} {L : am_L} {P n C m : Nat} {x v : Int32} (hwS : wfS Rs (I 198) P n C m)
    (h : ∀ I', frO I I' → I' 198 = (pFo (I 198) n x v).2 → Q (some (.int (pFo (I 198) n x v).1)) I' L (gg Lx ρ)) : am_run (d + 2) m_Model_found [.ref 186, .int x, .int v] I L (gg Lx ρ) Q := by
  obtain ⟨hn1, hn16, hwf⟩ := hwS.n
  have hv : mRd I x ↔ vN n x := by unfold mRd vN; rw [hn1]
  have i1 : mIn (Int32.toInt64 v) (-1) 7 ↔ (¬ v < -1 ∧ ¬ 7 < v) := mIn_i (a := -1) (b := 7)
  have k136 : ∀ c : Nat, (136 + nI c : Int32) = nI (136 + c) := fun c => by rw [show (136 : Int32) = nI 136 from rfl, nI_add]
  unfold pFo at h
  refine run_in rfl rfl ⟨rfl, rfl⟩ (sy_Model_found_0 _ _ (fun z => ?_) (fun z _ => ?_) (fun z z2 => ?_) (fun _ z => ?_))
  · rw [if_neg (fun q => z (hv.mpr q.1))] at h; exact h I frO.rf rfl
  · obtain ⟨j, hj, rfl⟩ := ix_lt (by omega) (hv.mp z).1 (hv.mp z).2
    rw [k136]; exact vp_in_nI (by omega) (by decide)
  · rw [if_pos ⟨hv.mp z, i1.mp z2⟩] at h
    obtain ⟨j, hj, rfl⟩ := ix_lt (by omega) (hv.mp z).1 (hv.mp z).2
    rw [nI_clamp (by omega)] at h
    rw [k136, nI_clamp (by omega)]
    exact h _ frO.rf.u am_u198
  · rw [if_neg (fun q => z (i1.mpr q.2))] at h; exact h I frO.rf rfl
theorem sp_LL_seed {I : am_I} {L : am_L} {f : Nat → Int32} {P n C m : Nat} {v : Int32} (hS : stS I 94 f n C m) (hwS : wfS Rs f P n C m)
    (h : ∀ I', frN I I' → stS I' 94 (pSd f v).2 n C m → Q (some (.int (pSd f v).1)) I' L (gg Lx ρ)) : am_run (d + 1) m_LL_seed [.ref 12, .int v] I L (gg Lx ρ) Q := by
  unfold pSd at h
  refine run_in rfl rfl ⟨rfl, rfl⟩ (sz_LL_seed_0 _ (fun z => ?_) (fun z => ?_))
  · rw [if_neg z] at h
    rw [hS.2.2.2.1]
    exact h _ (frN.rf.u (by omega)) (stS_x hS hwS.n.2.1 hwS.C.2 hwS.m.2)
  · rw [if_pos z] at h; exact h I frN.rf hS
theorem sp_Model_seed {I : am_I} {L : am_L} {v : Int32}
    (h : ∀ I', frO I I' → I' 198 = (pSd (I 198) v).2 → Q (some (.int (pSd (I 198) v).1)) I' L (gg Lx ρ)) : am_run (d + 1) m_Model_seed [.ref 186, .int v] I L (gg Lx ρ) Q := by
  unfold pSd at h
  refine run_in rfl rfl ⟨rfl, rfl⟩ (sz_Model_seed_0 _ (fun z => ?_) (fun z => ?_))
  · rw [if_neg z] at h; exact h _ frO.rf.u am_u198
  · rw [if_pos z] at h; exact h I frO.rf rfl
theorem sp_LL_force {I : am_I} {L : am_L} {f : Nat → Int32} {P n C m : Nat} {v : Int32} (hS : stS I 94 f n C m) (hwS : wfS Rs f P n C m) (hw : wfRs Rs) (hRC : RCc I ρ Rs)
    (h : ∀ I', frN I I' → stS I' 94 (pFc Rs f v).2 n C m → Q (some (.int (pFc Rs f v).1)) I' L (gg Lx ρ)) : am_run (d + 1) m_LL_force [.ref 12, .int v] I L (gg Lx ρ) Q := by
  have hl := hw.1
  unfold pFc at h
  refine run_in rfl rfl ⟨rfl, rfl⟩ (sz_LL_force_0 _ (fun z => ?_) (fun z z2 => ?_) (fun z z2 => ?_))
  · rw [if_neg (fun q => q.elim (fun q => by rw [q] at z; exact absurd z (by decide)) (fun q => q.1 (Int32.lt_trans z (by decide))))] at h; exact h I frN.rf hS
  · rw [hRC.2.1] at z2
    have hc : v = -1 ∨ vN Rs.length v := by
      by_cases e : v < 0
      · left
        rw [Int32.lt_iff_toInt_lt] at z e
        have h0 : (0 : Int32).toInt = 0 := by decide
        have h1 : (-1 : Int32).toInt = -1 := by decide
        exact Int32.toInt_inj.mp (by omega)
      · exact Or.inr ⟨e, z2⟩
    rw [if_pos hc] at h
    rw [hS.1.2.2.2.1]
    exact h _ (frN.rf.u (by omega)) (stS_fo hS hwS.n.2.1 hwS.C.2 hwS.m.2)
  · rw [hRC.2.1] at z2
    rw [if_neg (fun q => q.elim (fun q => z2 (by rw [q]; exact Int32.lt_of_lt_of_le (show (-1 : Int32) < 0 by decide) (nI_pos' (by omega)))) (fun q => z2 q.2))] at h; exact h I frN.rf hS
theorem sp_Model_force {I : am_I} {L : am_L} {v : Int32} (hM : RCm I Rs)
    (h : ∀ I', frO I I' → I' 198 = (pFc Rs (I 198) v).2 → Q (some (.int (pFc Rs (I 198) v).1)) I' L (gg Lx ρ)) : am_run (d + 2) m_Model_force [.ref 186, .int v] I L (gg Lx ρ) Q := by
  have hv : mRu I v ↔ vN Rs.length v := by unfold mRu vN; rw [hM.1]
  unfold pFc at h
  refine run_in rfl rfl ⟨rfl, rfl⟩ (sy_Model_force_0 _ (fun z => ?_) (fun _ z => ?_) (fun z z2 => ?_))
  · rw [if_pos (Or.inl z)] at h; exact h _ frO.rf.u am_u198
  · rw [if_pos (Or.inr (hv.mp z))] at h; exact h _ frO.rf.u am_u198
  · rw [if_neg (fun q => q.elim z (fun q => z2 (hv.mpr q)))] at h; exact h I frO.rf rfl
end ONE
