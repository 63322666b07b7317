/-! ===== net: the class's clauses and the whole ===== -/
section NPD
variable {d Lx : Nat} {ρ : List (Nat × Nat)} {Q : am_Q}
theorem w_Pl : am_strs 2 = wPl.map nI := by decide
theorem w_Ro : am_strs 3 = wRo.map nI := by decide
theorem w_Ca : am_strs 4 = wCa.map nI := by decide
theorem w_Lo : am_strs 5 = wLo.map nI := by decide
theorem i_c40 {c : Nat} (h : c < 400) : (nI c < 40 ↔ c < 40) ∧ (0 < nI c ↔ 0 < c) ∧ (nI c = 0 ↔ c = 0) := by
  refine ⟨?_, ?_, ?_⟩
  · constructor
    · intro z; apply Decidable.byContradiction; intro y; exact nI_nlt (b := 40) (by omega) (by omega) z
    · intro z; exact nI_lt (b := 40) z (by decide)
  · constructor
    · intro z; apply Decidable.byContradiction; intro y; exact nI_nlt (a := 0) (b := c) (by omega) (by decide) z
    · intro z; exact nI_lt (a := 0) z (by omega)
  · exact nI_eq (b := 0) (by omega) (by decide)
theorem sp_readClause {I : am_I} {L : am_L} {B : Nat → Nat} {t c p : Nat} {s : NS} (hT : tpC I B t) (hp : p ≤ t) (hc : cur I p 0) (hs : nsC I s) (hcc : c < 400)
    (h : ∀ I', frK I I' → I' 13 3 = nI (ncl B t c p s).1 → ((ncl B t c p s).1 = 0 → I' 13 2 = nI (ncl B t c p s).2.1 ∧ nsC I' (ncl B t c p s).2.2) → Q none I' L (gg Lx ρ)) : am_run (d + 6) m_NetReader_readClause [.ref 15, .ref 109, .int (nI c)] I L (gg Lx ρ) Q := by
  have hst : (109 : Nat) ∈ stl := by decide
  have hk := sk_le (B := B) hp
  have ht := hT.2.1
  have hi := i_c40 hcc
  have hid := sk_id (B := B) hp ht
  have hB := fun i hi => (hT.2.2 i hi).2
  have hg0 := hs.2.2.2.2.2.2.1
  have hP10 := hs.2.2.2.2.2.2.2
  refine run_in rfl rfl ⟨rfl, rfl⟩ (sy_NetReader_readClause_0 (d := d + 3) 109 _ hst ?_)
  refine sp_peek (d := d + 4) hT hp hc (fun I1 f1 c1 => ?_)
  have hT1 := tpC_fr f1 hT
  have hpw : ∀ {y : Int32}, y = bI (¬ c < 40) → am_run (d + 5) m_Tape_passWord [.ref 13, .ref 2] I1 L (gg Lx ρ) (fun r I' L' G' => am_W am_all (am_run (d + 5)) e_NetReader_readClause Q 38 [.ref 15, .ref 109, .int (nI c), .int (I1 13 2), .int y, .null] (r.toList ++ ([] : List Value)) I' L' G' 0 0) := by
    intro y hy
    refine sp_passWord (d := d + 3) (e := 0) hT1 hk.2 (by decide) w_Pl (by decide) (by decide) c1 (fun I2 f2 c2 => ?_)
    rw [hid] at c2
    rw [hid, c1.1]
    have f12 := f1.tr f2
    have hT2 := tpC_fr f12 hT
    by_cases w1 : isW B t (sk B t p) wPl = true
    · rw [if_pos w1] at c2
      have hq : sk B t p + 6 ≤ t := isW_le hk.2 w1
      refine sy_NetReader_readClause_38 (d := d + 3) 109 _ _ _ _ _ hst (fun z => absurd (bI0 z) (fun q => q w1)) (fun z => absurd (bI0 z) (fun q => q w1)) (fun z => absurd (bI0 z) (fun q => q w1)) (fun _ z => ?_) (fun _ z => ?_)
      · have zc : ¬ c = 0 := fun q => z (hi.2.2.mpr q)
        have e : ncl B t c p s = (1 + 8 * sk B t p + 4, 0, s) := by unfold ncl; rw [if_pos w1, if_neg zc]
        rw [e] at h
        have g := cFail_n (q := sk B t p) (w := 4) (by decide) c2
        exact h _ (frK.o3 (f12.tr g.1)) g.2.2 (fun z => absurd (show 1 + 8 * sk B t p + 4 = 0 from z) (by omega))
      · have zc : c = 0 := hi.2.2.mp z
        have e : ncl B t c p s = nPl B t (sk B t p + 6) s := by unfold ncl; rw [if_pos w1, if_pos zc]
        rw [e] at h
        refine sp_passNumber (d := d + 3) hT2 hq (by decide) c2 (fun I3 f3 c3 => ?_)
        have f13 := f12.tr f3
        refine sy_NetReader_readClause_73 (d := d + 3) 109 _ _ _ _ 110 _ hst (by decide) ?_
        refine h _ ((frK.o3 f13).tr (frK.c (S := [110]) (frc.rf.u (by simp)) (by simp))) ?_ (fun zz => ⟨?_, ?_⟩)
        · rw [am_u_ne (by decide)]; exact c3.2
        · rw [am_u_ne (by decide)]; exact c3.1
        · have hs3 := nsC_13 f13 hs
          obtain ⟨⟨h1, h2, h3, h4, h5, h6, h7⟩, hs2⟩ := hs3
          have hup : ∀ i, i ≠ 0 → (nPl B t (sk B t p + 6) s).2.2.g i = s.g i := fun i hi => if_neg hi
          refine ⟨⟨⟨?_, ?_, ?_, ?_, fun j hj => ?_⟩, h2, h3, ?_, fun c hc => ?_, fun l hl => ?_, fun r hr => ?_⟩, ?_, fun r hr => ?_, hs2.2.2.1, hs2.2.2.2.1, hs2.2.2.2.2.1, (show up0 s.g _ 0 = _ from if_pos rfl), (nm_bd (a := 1) (b := 10) hB ht hq rfl rfl (by decide) (by decide) zz).2⟩
          · show am_u I3 110 5 _ 110 5 = _; rw [am_u_at]; rfl
          · show am_u I3 110 5 _ 110 6 = _; rw [am_u_nk (by decide)]; exact h1.2.1
          · show am_u I3 110 5 _ 110 7 = _; rw [am_u_nk (by decide)]; exact h1.2.2.1
          · show am_u I3 110 5 _ 110 8 = _; rw [am_u_nk (by decide)]; exact h1.2.2.2.1
          · have := h1.2.2.2.2 j hj
            rw [hup _ (by omega), hup _ (by omega), hup _ (by omega), hup _ (by omega), hup _ (by omega)]
            exact this
          · exact h4
          · have := h5 c hc
            rw [hup _ (by omega), hup _ (by omega), hup _ (by omega)]
            exact this
          · have := h6 l hl
            rw [hup _ (by omega), hup _ (by omega), hup _ (by omega), hup _ (by omega)]
            exact this
          · rw [hup _ (by omega)]
            exact h7 r hr
          · exact hs2.1
          · rw [hup _ (by omega)]
            exact hs2.2.1 r hr
    · rw [if_neg w1] at c2
      have hpr : ∀ {x5 : Int32}, x5 = bI (0 < c ∧ c < 40) → am_run (d + 5) m_Tape_passWord [.ref 13, .ref 3] I2 L (gg Lx ρ) (fun r I' L' G' => am_W am_all (am_run (d + 5)) e_NetReader_readClause Q 102 [.ref 15, .ref 109, .int (nI c), .int (nI (sk B t p)), .int y, .int x5] (r.toList ++ ([] : List Value)) I' L' G' 0 0) := by
        intro x5 hx
        refine sp_passWord (d := d + 3) (e := 0) hT2 hk.2 (by decide) w_Ro (by decide) (by decide) c2 (fun I3 f3 c3 => ?_)
        rw [hid] at c3
        rw [hid]
        have f13 := f12.tr f3
        have hT3 := tpC_fr f13 hT
        have hs3 := nsC_13 f13 hs
        have bad : ∀ {I9 : am_I} {q9 : Nat}, fr13 I I9 → cur I9 q9 0 → ncl B t c p s = (1 + 8 * sk B t p + 4, 0, s) → Q none (cFail I9 (nI (sk B t p)) 4) L (gg Lx ρ) := by
          intro I9 q9 f9 c9 e
          rw [e] at h
          have g := cFail_n (q := sk B t p) (w := 4) (by decide) c9
          exact h _ (frK.o3 (f9.tr g.1)) g.2.2 (fun z => absurd (show 1 + 8 * sk B t p + 4 = 0 from z) (by omega))
        by_cases w2 : isW B t (sk B t p) wRo = true
        · rw [if_pos w2] at c3
          have hq : sk B t p + 4 ≤ t := isW_le hk.2 w2
          refine sy_NetReader_readClause_102 (d := d + 3) 109 _ _ _ _ _ hst (fun z => absurd (bI0 z) (fun q => q w2)) (fun _ z => ?_) (fun _ z z2 => ?_) (fun _ z z2 => ?_)
          · refine bad f13 c3 ?_
            have zc : ¬ (0 < c ∧ c < 40) := bI0 (hx ▸ z)
            unfold ncl; rw [if_neg w1, if_pos w2, if_neg (fun q => zc ⟨q.1, q.2.1⟩)]
          · refine bad f13 c3 ?_
            have z2 : ¬ I3 110 6 < 16 := z2
            rw [hs3.1.1.2.1] at z2
            unfold ncl; rw [if_neg w1, if_pos w2, if_neg (fun q => z2 (nI_lt (b := 16) q.2.2 (by decide)))]
          · have zc : 0 < c ∧ c < 40 := bI1 (hx ▸ z)
            have z2 : I3 110 6 < 16 := z2
            rw [hs3.1.1.2.1] at z2
            have zn : s.n < 16 := Decidable.byContradiction fun q => nI_nlt (b := 16) (by omega) (by have := hs.2.2.2.1; omega) z2
            have e : ncl B t c p s = nRo B t (sk B t p + 4) s := by unfold ncl; rw [if_neg w1, if_pos w2, if_pos ⟨zc.1, zc.2, zn⟩]
            rw [e] at h
            refine sp_readRoad (d := d + 2) hT3 hq c3 hs3.1.1 zn hg0 hP10 (fun I4 f4 k4 c4 r4 => ?_)
            refine sy_NetReader_readClause_143 (d := d + 3) 109 _ _ _ _ hst ?_
            refine h I4 ((frK.o3 f13).tr k4) c4.2 (fun zz => ⟨c4.1, ?_⟩)
            have r4 := r4 zz
            obtain ⟨⟨h1, h2, h3, h4, h5, h6, h7⟩, hs4⟩ := hs3
            refine ⟨⟨r4, ?_, ?_, ?_, fun c hc => ?_, fun l hl => ?_, fun r hr => ?_⟩, ?_, fun r hr => ?_, (show s.n + 1 ≤ 16 by omega), hs4.2.2.2.1, hs4.2.2.2.2.1, (show nr s.g s.n _ _ _ _ 0 = nI s.P from (nr_o (by omega)).trans hg0), hP10⟩
            · rw [f4 109 (by decide) (by decide)]; exact h2
            · rw [f4 109 (by decide) (by decide)]; exact h3
            · rw [f4 109 (by decide) (by decide)]; show _ = nr s.g s.n _ _ _ _ 5; rw [nr_o (by omega)]; exact h4
            · have := h5 c hc
              show I4 116 c = nr s.g s.n _ _ _ _ _ ∧ I4 117 c = nr s.g s.n _ _ _ _ _ ∧ I4 118 c = nr s.g s.n _ _ _ _ _
              rw [f4 116 (by decide) (by decide), f4 117 (by decide) (by decide), f4 118 (by decide) (by decide), nr_o (by omega), nr_o (by omega), nr_o (by omega)]; exact this
            · have := h6 l hl
              show I4 119 l = nr s.g s.n _ _ _ _ _ ∧ I4 120 l = nr s.g s.n _ _ _ _ _ ∧ I4 121 l = nr s.g s.n _ _ _ _ _ ∧ I4 122 l = nr s.g s.n _ _ _ _ _
              rw [f4 119 (by decide) (by decide), f4 120 (by decide) (by decide), f4 121 (by decide) (by decide), f4 122 (by decide) (by decide), nr_o (by omega), nr_o (by omega), nr_o (by omega), nr_o (by omega)]; exact this
            · have hr : r < s.n + 1 := hr
              show I4 123 r = nr s.g s.n _ _ _ _ _
              rw [f4 123 (by decide) (by decide), nr_o (by omega), hs4.1 r (by omega), hs4.2.1 r (by omega)]
            · rw [f4 123 (by decide) (by decide)]; exact hs4.1
            · show nr s.g s.n _ _ _ _ _ = _; rw [nr_o (by omega)]; exact hs4.2.1 r hr
        · rw [if_neg w2] at c3
          refine sy_NetReader_readClause_102 (d := d + 3) 109 _ _ _ _ _ hst (fun _ => ?_) (fun z => absurd (bI_f w2) z) (fun z => absurd (bI_f w2) z) (fun z => absurd (bI_f w2) z)
          refine sp_passWord (d := d + 3) (e := 0) hT3 hk.2 (by decide) w_Ca (by decide) (by decide) c3 (fun I4 f4 c4 => ?_)
          rw [hid] at c4
          rw [hid]
          have f14 := f13.tr f4
          have hT4 := tpC_fr f14 hT
          have hs4 := nsC_13 f14 hs
          by_cases w3 : isW B t (sk B t p) wCa = true
          · rw [if_pos w3] at c4
            have hq : sk B t p + 6 ≤ t := isW_le hk.2 w3
            refine sy_NetReader_readClause_155 (d := d + 3) 109 _ _ _ _ _ hst (fun z => absurd (bI0 z) (fun q => q w3)) (fun _ z => ?_) (fun _ z z2 => ?_) (fun _ z z2 => ?_)
            · refine bad f14 c4 ?_
              have zc : ¬ (0 < c ∧ c < 40) := bI0 (hx ▸ z)
              unfold ncl; rw [if_neg w1, if_neg w2, if_pos w3, if_neg (fun q => zc ⟨q.1, q.2.1⟩)]
            · refine bad f14 c4 ?_
              rw [hs4.1.2.1] at z2
              unfold ncl; rw [if_neg w1, if_neg w2, if_pos w3, if_neg (fun q => z2 (nI_lt (b := 4) q.2.2 (by decide)))]
            · have zc : 0 < c ∧ c < 40 := bI1 (hx ▸ z)
              rw [hs4.1.2.1] at z2
              have zn : s.C < 4 := Decidable.byContradiction fun q => nI_nlt (b := 4) (by omega) (by have := hs.2.2.2.2.1; omega) z2
              have e : ncl B t c p s = nCa B t (sk B t p + 6) s := by unfold ncl; rw [if_neg w1, if_neg w2, if_pos w3, if_pos ⟨zc.1, zc.2, zn⟩]
              rw [e] at h
              have e0 : I4 (109 + 1) 5 = s.g 0 := hs4.1.1.1
              rw [e0]
              refine sp_passNumber (d := d + 3) hT4 hq (by decide) c4 (fun I5 f5 c5 => ?_)
              have f15 := f14.tr f5
              have hs5 := nsC_13 f15 hs
              refine sy_NetReader_readClause_203 (d := d + 3) 109 _ _ _ _ 109 _ hst hst ?_
              refine sp_addCarter (d := d + 3) hs5.1 zn hs5.2.2.2.1 (fun I6 f6 r6 => ?_)
              refine sy_NetReader_readClause_206 (d := d + 3) 109 _ _ _ _ hst ?_
              have c6 := cur_fr f6 (by decide) c5
              refine h I6 ((frK.o3 f15).tr (frK.c f6 (by simp))) c6.2 (fun zz => ⟨c6.1, r6 (hPl_in hP10 (hs5.1.1.1.trans hg0) (nm_pl (h := s.g 0) hB ht hq hP10 hg0 zz)), ?_, fun r hr => ?_, hs5.2.2.2.1, (show s.C + 1 ≤ 4 by omega), hs5.2.2.2.2.2.1, (show cr s.g s.C _ 0 = nI s.P from (cr_o (by omega)).trans hg0), hP10⟩)
              · rw [f6 123 (by decide)]; exact hs5.2.1
              · show cr s.g s.C _ _ = _; rw [cr_o (by omega)]; exact hs5.2.2.1 r hr
          · rw [if_neg w3] at c4
            refine sy_NetReader_readClause_155 (d := d + 3) 109 _ _ _ _ _ hst (fun _ => ?_) (fun z => absurd (bI_f w3) z) (fun z => absurd (bI_f w3) z) (fun z => absurd (bI_f w3) z)
            refine sp_passWord (d := d + 3) (e := 0) hT4 hk.2 (by decide) w_Lo (by decide) (by decide) c4 (fun I5 f5 c5 => ?_)
            rw [hid] at c5
            rw [hid]
            have f15 := f14.tr f5
            have hT5 := tpC_fr f15 hT
            have hs5 := nsC_13 f15 hs
            by_cases w4 : isW B t (sk B t p) wLo = true
            · rw [if_pos w4] at c5
              have hq : sk B t p + 4 ≤ t := isW_le hk.2 w4
              refine sy_NetReader_readClause_218 (d := d + 3) 109 _ _ _ _ _ hst (fun z => absurd (bI0 z) (fun q => q w4)) (fun _ z => ?_) (fun _ z z2 => ?_) (fun _ z z2 => ?_)
              · refine bad f15 c5 ?_
                have zc : ¬ (0 < c ∧ c < 40) := bI0 (hx ▸ z)
                unfold ncl; rw [if_neg w1, if_neg w2, if_neg w3, if_pos w4, if_neg (fun q => zc ⟨q.1, q.2.1⟩)]
              · refine bad f15 c5 ?_
                rw [hs5.1.2.2.1] at z2
                unfold ncl; rw [if_neg w1, if_neg w2, if_neg w3, if_pos w4, if_neg (fun q => z2 (nI_lt (b := 8) q.2.2 (by decide)))]
              · have zc : 0 < c ∧ c < 40 := bI1 (hx ▸ z)
                rw [hs5.1.2.2.1] at z2
                have zn : s.m < 8 := Decidable.byContradiction fun q => nI_nlt (b := 8) (by omega) (by have := hs.2.2.2.2.2.1; omega) z2
                have e : ncl B t c p s = nLo B t (sk B t p + 4) s := by unfold ncl; rw [if_neg w1, if_neg w2, if_neg w3, if_pos w4, if_pos ⟨zc.1, zc.2, zn⟩]
                rw [e] at h
                refine sp_readLoad (d := d + 2) hT5 hq c5 hs5.1 hs5.2.2.2.2.1 zn hs5.2.2.2.1 hg0 hP10 (fun I6 k6 e6 c6 r6 => ?_)
                refine sy_NetReader_readClause_253 (d := d + 3) 109 _ _ _ _ hst ?_
                refine h I6 ((frK.o3 f15).tr k6) c6.2 (fun zz => ⟨c6.1, r6 zz, ?_, fun r hr => ?_, hs5.2.2.2.1, hs5.2.2.2.2.1, (show s.m + 1 ≤ 8 by omega), (show lr s.g s.m _ _ _ _ 0 = nI s.P from (lr_o (by omega)).trans hg0), hP10⟩)
                · rw [e6]; exact hs5.2.1
                · show lr s.g s.m _ _ _ _ _ = _; rw [lr_o (by omega)]; exact hs5.2.2.1 r hr
            · rw [if_neg w4] at c5
              refine sy_NetReader_readClause_218 (d := d + 3) 109 _ _ _ _ _ hst (fun _ => ?_) (fun z => absurd (bI_f w4) z) (fun z => absurd (bI_f w4) z) (fun z => absurd (bI_f w4) z)
              have e : ncl B t c p s = (1 + 8 * sk B t p, 0, s) := by unfold ncl; rw [if_neg w1, if_neg w2, if_neg w3, if_neg w4]
              rw [e] at h
              have g := cFail_n (q := sk B t p) (w := 0) (by decide) c5
              exact h _ (frK.o3 (f15.tr g.1)) g.2.2 (fun z => absurd (show 1 + 8 * sk B t p = 0 from z) (by omega))
      refine sy_NetReader_readClause_38 (d := d + 3) 109 _ _ _ _ _ hst (fun _ z => hpr ?_) (fun _ z z2 => hpr ?_) (fun _ z z2 => hpr ?_) (fun z => absurd (bI_f w1) z) (fun z => absurd (bI_f w1) z)
      · exact (bI_f (fun q => z (hi.2.1.mpr q.1))).symm
      · exact (bI_f (fun q => z2 (by rw [hy]; exact bI_f (fun k => k q.2)))).symm
      · exact (bI_t ⟨hi.2.1.mp z, Decidable.byContradiction fun q => absurd (hy ▸ z2) (by rw [bI_t q]; decide)⟩).symm
  refine sy_NetReader_readClause_7 (d := d + 3) 109 _ _ _ _ _ hst (fun z => hpw ?_) (fun z => hpw ?_)
  · exact (bI_f (fun q => q (hi.1.mp z))).symm
  · exact (bI_t (show ¬ c < 40 from fun q => z (hi.1.mpr q))).symm
end NPD
