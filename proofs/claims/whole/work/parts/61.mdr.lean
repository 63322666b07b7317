/-! ===== the reference by hand; takes, lays, found, seed, force ===== -/
/-- what the reference changes by hand: said, and its scratch -/
def frO (I I' : am_I) : Prop := (∀ a, a ≠ 186 → ¬ (198 ≤ a ∧ a ≤ 210) → I' a = I a) ∧ ∀ k, k = 1 ∨ k = 2 → I' 186 k = I 186 k
theorem frm.O {S F : List Nat} {I I' : am_I} (h : frm S F I I') (hS : ∀ a ∈ S, 198 ≤ a ∧ a ≤ 210) (hF : 1 ∉ F ∧ 2 ∉ F) : frO I I' :=
  ⟨fun a z y => h.1 a z fun q => y (hS a q), fun k hk => h.2 k (by rcases hk with e | e <;> subst e; exact hF.1; exact hF.2)⟩
theorem frO.rf {I : am_I} : frO I I := ⟨fun _ _ _ => rfl, fun _ _ => rfl⟩
theorem frO.u {I I' : am_I} (h : frO I I') {i : Nat} {v : Int32} : frO I (am_u I' 198 i v) := ⟨fun a z y => by rw [am_u_ne (by omega)]; exact h.1 a z y, fun k hk => by rw [am_u_ne (by decide)]; exact h.2 k hk⟩
section MDR
variable {d Lx : Nat} {ρ : List (Nat × Nat)} {Q : am_Q} {Rs : List (List (Nat × List Nat))}
theorem sp_Model_drivesG {I : am_I} {L : am_L} {j : Nat} {p k dy : Int32} (hj : j < 17) (hk : ¬ k < 0) (hfo : foR Rs (I 198 6)) (hw : wfRs Rs) (hM : RCm I Rs)
    (h : ∀ I' L', frm [198] [24] I I' → I' 198 = nt (I 198) j (pLst Rs (I 198) j p k dy) → Q none I' L' (gg Lx ρ)) : am_run (d + 5) m_Model_drives [.ref 186, .int (nI j), .int p, .int k, .int dy] I L (gg Lx ρ) Q := by
  refine run_in rfl rfl ⟨rfl, rfl⟩ (sz_Model_drives_0 _ _ _ _ (sp_Model_lastBehind hj hk hfo hw hM (fun I1 L1 f1 l1 => ?_)))
  have e3 : ((7 + (5 * nI j)) + (3 : Int32)) = nI (7 + 5 * j + 3) := by rw [show (7 : Int32) = nI 7 from rfl, show (5 : Int32) = nI 5 from rfl, show (3 : Int32) = nI 3 from rfl, pk_mul, nI_add, nI_add]
  have e4 : ((7 + (5 * nI j)) + (4 : Int32)) = nI (7 + 5 * j + 4) := by rw [show (7 : Int32) = nI 7 from rfl, show (5 : Int32) = nI 5 from rfl, show (4 : Int32) = nI 4 from rfl, pk_mul, nI_add, nI_add]
  refine sz_Model_drives_9 _ _ _ _ _ _ (by rw [e3]; exact vp_in_nI (by omega) (by decide)) (by rw [e4]; exact vp_in_nI (by omega) (by decide)) ?_
  rw [e3, e4, nI_clamp (by omega), nI_clamp (by omega)]
  refine h _ L1 ((((f1.m.w (by simp) (by simp)).u (by simp) (by decide)).u (by simp) (by decide)).u (by simp) (by decide)) (funext fun i => ?_)
  have e198 : I1 198 = I 198 := f1.c (by decide)
  unfold nt
  by_cases z3 : i = 7 + 5 * j + 3
  · subst z3; rw [if_pos rfl, am_u_nk (by omega), am_u_nk (by omega), am_u_at]
  · rw [if_neg z3]
    by_cases z4 : i = 7 + 5 * j + 4
    · subst z4; rw [if_pos rfl, am_u_nk (by omega), am_u_at, am_u_nk (by omega), e198]
    · rw [if_neg z4]
      by_cases z5 : i = 4
      · subst z5; rw [if_pos rfl, am_u_at, am_u_nk (by omega), am_u_nk (by omega), e198]
      · rw [if_neg z5, am_u_nk z5, am_u_nk z4, am_u_nk z3, e198]
theorem sp_Model_drive {I : am_I} {L : am_L} {P n C m : Nat} {x y : Int32} (hwS : wfS Rs (I 198) P n C m) (hw : wfRs Rs) (hM : RCm I Rs)
    (h : ∀ I' L', frO I I' → I' 198 = (pDr Rs (I 198) n C x y).2 → Q (some (.int (pDr Rs (I 198) n C x y).1)) I' L' (gg Lx ρ)) : am_run (d + 6) m_Model_drive [.ref 186, .int x, .int y] I L (gg Lx ρ) Q := by
  obtain ⟨hn1, hn16, hwf⟩ := hwS.n
  have hC := hwS.C
  have hm := hwS.m
  have hv : mRd I y ↔ vN n y := by unfold mRd vN; rw [hn1]
  have hvc : mCa I x ↔ vN C x := by unfold mCa vN; rw [hC.1]
  unfold pDr at h
  by_cases hc0 : vN C x ∧ vN n y
  · rw [if_pos hc0] at h
    obtain ⟨c, hc, rfl⟩ := ix_lt (by omega) hc0.1.1 hc0.1.2
    obtain ⟨j, hj, rfl⟩ := ix_lt (by omega) hc0.2.1 hc0.2.2
    rw [nI_clamp (by omega), nI_clamp (by omega)] at h
    have c0 : mC I (nI c) 0 = I 198 (92 + 3 * c) := mC_n (c := 0) (by omega)
    have c1 : mC I (nI c) 1 = I 198 (92 + 3 * c + 1) := mC_n (c := 1) (by omega)
    have c2 : mC I (nI c) 2 = I 198 (92 + 3 * c + 2) := mC_n (c := 2) (by omega)
    obtain ⟨kk, hk7, ek⟩ := pDk_n hwS hc
    obtain ⟨w1, w2, w3, w4, w5, w6, w7, w8, w9, w10⟩ := hwf.2 j hj
    have hl0 : ¬ I 198 (7 + 5 * j + 3) < 0 := by rw [w9]; exact nI_pos (by omega)
    have hk0 : ¬ pDk (I 198) c < 0 := by rw [ek]; exact nI_pos (by omega)
    have key : ∀ kd : Int32, kd = pDk (I 198) c → am_run (d + 5) m_Model_broken [.ref 186, .int (nI j), .int (mC I (nI c) 0), .int kd, .int (mC I (nI c) 2)] I L (gg Lx ρ) (fun r I' L' G' => am_W am_all (am_run (d + 5)) e_Model_drive Q 69 [.ref 186, .int (nI c), .int (nI j), .int (mC I (nI c) 0), .int (mC I (nI c) 2), .int kd, .null] (r.toList ++ ([] : List Value)) I' L' G' 0 0) := by
      intro kd ekd
      subst ekd
      rw [c0, c2]
      unfold pDr1 at h
      refine sp_Model_broken (d := d + 1) (by omega) hk0 hl0 hwS.fo hw hM (fun I1 L1 f1 l1 => ?_)
      have e198 : I1 198 = I 198 := f1.c (by decide)
      have r2 : mR I1 (nI j) 2 = I 198 (7 + 5 * j + 2) := (mR_n (c := 2) (by omega)).trans (by rw [e198])
      have hO : frO I I1 := f1.m.O (by simp) (by simp)
      refine sy_Model_drive_69 (d := d + 3) _ _ _ _ _ _ _ (fun _ => oR_n (c := 2) (by omega)) (fun z z2 => ?_) (fun z z2 => ?_) (fun z => ?_)
      · have hz := (pBrk_v Rs (I 198) j (I 198 (92 + 3 * c)) (pDk (I 198) c) (I 198 (92 + 3 * c + 2))).resolve_right z
        rw [r2] at z2
        rw [if_pos hz, if_neg z2] at h
        dsimp only at h
        refine sp_Model_drivesG (d := d) (by omega) hk0 (by rw [e198]; exact hwS.fo) hw (f1.m.M (by simp) (by simp) hM) (fun I2 L2 f2 e2 => ?_)
        rw [e198] at e2
        have eo : mOth I2 (nI j) (I 198 (92 + 3 * c)) = oth (I 198) j (I 198 (92 + 3 * c)) := by
          rw [mOth_n (by omega)]; unfold oth; rw [e2, nt_o (by omega) (by omega) (by omega), nt_o (by omega) (by omega) (by omega)]
        have k92 : (92 + (3 * nI c) : Int32) = nI (92 + 3 * c) := by rw [show (92 : Int32) = nI 92 from rfl, show (3 : Int32) = nI 3 from rfl, pk_mul, nI_add]
        have k94 : (92 + (3 * nI c) : Int32) + 2 = nI (92 + 3 * c + 2) := by rw [k92, show (2 : Int32) = nI 2 from rfl, nI_add]
        have er : ∀ v, mR (am_u I2 198 (92 + 3 * c) v) (nI j) 2 = I 198 (7 + 5 * j + 2) := fun v => (mR_n (c := 2) (by omega)).trans (by rw [am_u_nk (by omega), e2, nt_o (by omega) (by omega) (by omega)])
        refine sy_Model_drive_110 (d := d + 3) _ _ _ _ _ _ (oR_n (c := 0) (by omega)) (oR_n (c := 1) (by omega)) (by rw [k92]; exact vp_in_nI (by omega) (by decide)) (oR_n (c := 2) (by omega)) (by rw [k94]; exact vp_in_nI (by omega) (by decide)) (oC_n (c := 0) (by omega)) ?_
        rw [k94, k92, nI_clamp (by omega), nI_clamp (by omega), eo, er]
        rw [show mC (am_u (am_u I2 198 (92 + 3 * c) (oth (I 198) j (I 198 (92 + 3 * c)))) 198 (92 + 3 * c + 2) (I 198 (92 + 3 * c + 2) + I 198 (7 + 5 * j + 2))) (nI c) 0 = oth (I 198) j (I 198 (92 + 3 * c)) from (mC_n (c := 0) (by omega)).trans (by rw [am_u_nk (by omega)]; exact am_u_at)]
        refine h _ L2 ((((f1.m.w (by simp) (by simp)).tr f2).O (by simp) (by simp)).u.u) ?_
        rw [am_u198, am_u198, e2]
      · have hz := (pBrk_v Rs (I 198) j (I 198 (92 + 3 * c)) (pDk (I 198) c) (I 198 (92 + 3 * c + 2))).resolve_right z
        rw [r2] at z2
        rw [if_pos hz, if_pos z2] at h
        exact h I1 L1 hO e198
      · rw [if_neg (fun q => by rw [q] at z; exact absurd z (by decide))] at h
        exact h I1 L1 hO e198
    have hmc : mCa I (nI c) := hvc.mpr hc0.1
    have hmr : mRd I (nI j) := hv.mpr hc0.2
    have ekd : ∀ (z : ¬ mC I (nI c) 1 < 0), ∃ l, l < m ∧ mC I (nI c) 1 = nI l := fun z => by
      rw [c1] at z ⊢
      rcases (hwS.c c hc).2.2.1 with e | ⟨l, hl, e⟩
      · rw [e] at z; exact absurd (by decide) z
      · exact ⟨l, hl, e⟩
    refine run_in rfl rfl ⟨rfl, rfl⟩ (sy_Model_drive_0 (d := d + 3) _ _ (fun z => absurd hmc z) (fun _ _ => oC_n (c := 0) (by omega)) (fun _ _ => oC_n (c := 2) (by omega)) (fun _ _ => oC_n (c := 1) (by omega)) (fun _ _ z => ?_) (fun _ _ z => key _ ?_) (fun _ _ z => key _ ?_) (fun _ z => absurd hmr z))
    · obtain ⟨l, hl, e⟩ := ekd z
      rw [e]; exact oL_n (c := 0) (by omega)
    · obtain ⟨l, hl, e⟩ := ekd z
      rw [e, show mL I (nI l) 0 = I 198 (104 + 4 * l) from mL_n (c := 0) (by omega)]
      unfold pDk
      rw [← c1, e, if_neg (nI_pos (by omega)), nI_clamp (by omega)]
    · unfold pDk
      rw [← c1, if_pos z]
  · rw [if_neg hc0] at h
    refine run_in rfl rfl ⟨rfl, rfl⟩ (sy_Model_drive_0 (d := d + 3) _ _ (fun _ => h I L frO.rf rfl) (fun z z2 => absurd ⟨hvc.mp z, hv.mp z2⟩ hc0) (fun z z2 => absurd ⟨hvc.mp z, hv.mp z2⟩ hc0) (fun z z2 => absurd ⟨hvc.mp z, hv.mp z2⟩ hc0) (fun z z2 => absurd ⟨hvc.mp z, hv.mp z2⟩ hc0) (fun z z2 => absurd ⟨hvc.mp z, hv.mp z2⟩ hc0) (fun z z2 => absurd ⟨hvc.mp z, hv.mp z2⟩ hc0) (fun _ _ => h I L frO.rf rfl))
def pTk (f : Nat → Int32) (C m : Nat) (x y : Int32) : Int32 × (Nat → Int32) :=
  if vN C x ∧ vN m y ∧ f (92 + 3 * x.toNatClampNeg + 1) = -1 ∧ f (104 + 4 * y.toNatClampNeg + 1) = f (92 + 3 * x.toNatClampNeg) then (1, up1 (up1 f (92 + 3 * x.toNatClampNeg + 1) y) (104 + 4 * y.toNatClampNeg + 1) (-1)) else (0, f)
def pLy (f : Nat → Int32) (C : Nat) (x : Int32) : Int32 × (Nat → Int32) :=
  if vN C x ∧ ¬ f (92 + 3 * x.toNatClampNeg + 1) = -1 then (f (92 + 3 * x.toNatClampNeg + 1), up1 (up1 f (104 + 4 * (f (92 + 3 * x.toNatClampNeg + 1)).toNatClampNeg + 1) (f (92 + 3 * x.toNatClampNeg))) (92 + 3 * x.toNatClampNeg + 1) (-1)) else (-1, f)
theorem sp_LL_take {I : am_I} {L : am_L} {f : Nat → Int32} {P n C m : Nat} {x y : Int32} (hS : stS I 94 f n C m) (hwS : wfS Rs f P n C m)
    (h : ∀ I', frN I I' → stS I' 94 (pTk f C m x y).2 n C m → Q (some (.int (pTk f C m x y).1)) I' L (gg Lx ρ)) : am_run (d + 2) m_LL_take [.ref 12, .int x, .int y] I L (gg Lx ρ) Q := by
  have hC := hwS.C
  have hm := hwS.m
  have hvc := hCa_v (x := x) hS hC.2
  have hvl := hLo_v (x := y) hS hm.2
  have rdc : hCa I 94 x → I 101 x.toNatClampNeg = f (92 + 3 * x.toNatClampNeg) ∧ I 102 x.toNatClampNeg = f (92 + 3 * x.toNatClampNeg + 1) := fun z => by
    obtain ⟨c, hc, rfl⟩ := ix_lt (by omega) (hvc.mp z).1 (hvc.mp z).2
    obtain ⟨q1, q2, q3⟩ := hS.2.2.2.2.1 c hc
    rw [nI_clamp (by omega)]; exact ⟨q1, q2⟩
  have rdl' : hLo I 94 y → I 105 y.toNatClampNeg = f (104 + 4 * y.toNatClampNeg + 1) := fun z => by
    obtain ⟨l, hl, rfl⟩ := ix_lt (by omega) (hvl.mp z).1 (hvl.mp z).2
    obtain ⟨q1, q2, q3, q4⟩ := hS.2.2.2.2.2.1 l hl
    rw [nI_clamp (by omega)]; exact q2
  unfold pTk at h
  refine run_in rfl rfl ⟨rfl, rfl⟩ (sy_LL_take_0 _ _ (fun z => ?_) (fun z _ => vin z.1 z.2.2 rfl (by decide)) (fun z z2 z3 => ?_) (fun _ z2 _ => vin z2.1 z2.2.2 rfl (by decide)) (fun z z2 z3 z4 => ?_) (fun z z2 z3 z4 => ?_) (fun z z2 => ?_))
  · rw [if_neg (fun q => z (hvc.mpr q.1))] at h; exact h I frN.rf hS
  · rw [(rdc z).2] at z3
    rw [if_neg (fun q => z3 q.2.2.1)] at h; exact h I frN.rf hS
  · rw [(rdc z).2] at z3
    rw [(rdc z).1, rdl' z2] at z4
    rw [if_pos ⟨hvc.mp z, hvl.mp z2, z3, z4⟩] at h
    obtain ⟨c, hc, rfl⟩ := ix_lt (by omega) (hvc.mp z).1 (hvc.mp z).2
    obtain ⟨l, hl, rfl⟩ := ix_lt (by omega) (hvl.mp z2).1 (hvl.mp z2).2
    rw [nI_clamp (by omega), nI_clamp (by omega)] at h ⊢
    dsimp only at h
    refine h _ ((frN.rf.u (by omega)).u (by omega)) ⟨?_, ?_, ?_, ?_, ?_, ?_, ?_⟩
    · obtain ⟨g1, g2, g3, g4, g5⟩ := hS.1
      refine ⟨?_, ?_, ?_, ?_, fun i hi => ?_⟩
      · rw [am_u_ne (by decide), am_u_ne (by decide), up1_ne (by omega), up1_ne (by omega)]; exact g1
      · rw [am_u_ne (by decide), am_u_ne (by decide)]; exact g2
      · rw [am_u_ne (by decide), am_u_ne (by decide), up1_ne (by omega), up1_ne (by omega)]; exact g3
      · rw [am_u_ne (by decide), am_u_ne (by decide), up1_ne (by omega), up1_ne (by omega)]; exact g4
      · have hn16 := hwS.n.2.1
        have gf : ∀ q, q < 92 → up1 (up1 f (92 + 3 * c + 1) (nI l)) (104 + 4 * l + 1) (-1) q = f q := fun q hq => by rw [up1_ne (by omega), up1_ne (by omega)]
        have ga : ∀ q, q ≤ 100 → am_u (am_u I 102 c (nI l)) 105 l (-1) q = I q := fun q hq => by rw [am_u_ne (by omega), am_u_ne (by omega)]
        rw [gf _ (by omega), gf _ (by omega), gf _ (by omega), gf _ (by omega), gf _ (by omega), ga _ (by omega), ga _ (by omega), ga _ (by omega), ga _ (by omega), ga _ (by omega)]
        exact g5 i hi
    · rw [am_u_ne (by decide), am_u_ne (by decide)]; exact hS.2.1
    · rw [am_u_ne (by decide), am_u_ne (by decide)]; exact hS.2.2.1
    · rw [am_u_ne (by decide), am_u_ne (by decide), up1_ne (by omega), up1_ne (by omega)]; exact hS.2.2.2.1
    · intro e he
      obtain ⟨r1, r2, r3⟩ := hS.2.2.2.2.1 e he
      refine ⟨?_, ?_, ?_⟩
      · rw [am_u_ne (by decide), am_u_ne (by decide), up1_ne (by omega), up1_ne (by omega)]; exact r1
      · rw [am_u_ne (by decide), up1_ne (by omega)]
        by_cases q : e = c
        · subst q; rw [am_u_at, up1_at]
        · rw [am_u_nk q, up1_ne (by omega)]; exact r2
      · rw [am_u_ne (by decide), am_u_ne (by decide), up1_ne (by omega), up1_ne (by omega)]; exact r3
    · intro e he
      obtain ⟨r1, r2, r3, r4⟩ := hS.2.2.2.2.2.1 e he
      refine ⟨?_, ?_, ?_, ?_⟩
      · rw [am_u_ne (by decide), am_u_ne (by decide), up1_ne (by omega), up1_ne (by omega)]; exact r1
      · by_cases q : e = l
        · subst q; rw [am_u_at, up1_at]
        · rw [am_u_nk q, am_u_ne (by decide), up1_ne (by omega), up1_ne (by omega)]; exact r2
      · rw [am_u_ne (by decide), am_u_ne (by decide), up1_ne (by omega), up1_ne (by omega)]; exact r3
      · rw [am_u_ne (by decide), am_u_ne (by decide), up1_ne (by omega), up1_ne (by omega)]; exact r4
    · intro e he
      rw [am_u_ne (by decide), am_u_ne (by decide), up1_ne (by omega), up1_ne (by omega)]
      exact hS.2.2.2.2.2.2 e he
  · rw [(rdc z).1, rdl' z2] at z4
    rw [if_neg (fun q => z4 q.2.2.2)] at h; exact h I frN.rf hS
  · rw [if_neg (fun q => z2 (hvl.mpr q.2.1))] at h; exact h I frN.rf hS
end MDR
