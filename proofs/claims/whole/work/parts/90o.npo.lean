/-! ===== net: the reference's carters, loads, places ===== -/
section NPO
variable {d Lx : Nat} {ρ : List (Nat × Nat)} {Q : am_Q}
theorem sp_isCarter {I : am_I} {L : am_L} {B : Nat → Nat} {t q : Nat} {s : NS} {X : Nat × Nat × NS} (hT : tpM I B t) (hq : q ≤ t) (hc : mcu I q 0) (hW : isW B t q wCa = true) (hs : nsM I s) (hn : s.C ≤ 4) (hn16 : s.n ≤ 16) (x1 : s.C < 4 → X = nCa B t (q + 6) s) (x0 : ¬ s.C < 4 → X = (1 + 8 * q + 4, 0, s))
    (h : ∀ I', frR I I' → I' 186 15 = nI X.1 → (X.1 = 0 → I' 186 14 = nI X.2.1 ∧ nsM I' X.2.2) → Q (some (.int (bI (X.1 = 0)))) I' L (gg Lx ρ)) : am_run (d + 4) m_Model_isCarterHere [.ref 186, .int (nI q)] I L (gg Lx ρ) Q := by
  have hB := fun i hi => (hT.2.2 i hi).2
  have ht := hT.2.1
  have hq6 : q + 6 ≤ t := isW_le hq hW
  refine run_in rfl rfl ⟨rfl, rfl⟩ (sy_Model_isCarterHere_0 _ (fun z => ?_) (fun z => ?_))
  · rw [hs.2.2.1] at z
    have zn : s.C < 4 := by
      have : s.C ≠ 4 := fun k => z (by rw [k]; rfl)
      omega
    have e := x1 zn
    subst e
    refine sp_mPass hT hq (by decide) hW hc (fun I1 f1 c1 => ?_)
    have hT1 := tpM_fr f1 (by decide) (by decide) hT
    have c1 : mcu I1 (q + 6) 0 := c1
    have e7 : I1 186 7 = s.g 0 := by rw [f1.2 7 (by decide)]; exact hs.1
    refine sy_Model_isCarterHere_19 _ ?_
    rw [e7]
    refine sp_numberHere hT1 hq6 c1 (fun z1 I2 f2 c2 n2 => ?_) (fun z1 I2 f2 n2 => ?_)
    · have z1 : (q1 B t (q + 6) (s.g 0 - 1)).1 = 0 := z1
      have c2 : mcu I2 (q1 B t (q + 6) (s.g 0 - 1)).2.1 0 := c2
      have n2 : I2 186 16 = nI (q1 B t (q + 6) (s.g 0 - 1)).2.2 := n2
      have f12 : frF [14, 15, 16] I I2 := (f1.w (fun _ z => z) (by decide)).tr f2
      have hs2 := nsM_F f12 (by decide) hs
      refine sy_Model_isCarterHere_30 _ _ (fun _ => ?_) (fun _ => ?_) (fun k => absurd k (by decide))
      · rw [hs2.2.2.1]; exact vp_in_nI zn (by decide)
      · rw [hs2.2.2.1, nI_clamp (by omega), n2]
        have e0 : (nCa B t (q + 6) s).1 = 0 := z1
        rw [e0, bI_t rfl] at h
        refine h _ (((frR.F f12 (by decide)).u (by simp)).uf (by simp)) ?_ (fun _ => ⟨?_, ?_, ?_, ?_, ?_, ?_, ?_, ?_⟩)
        · rw [am_u_nk (by decide), am_u_ne (by decide)]; exact c2.2
        · rw [am_u_nk (by decide), am_u_ne (by decide)]; exact c2.1
        · rw [am_u_nk (by decide), am_u_ne (by decide)]; exact hs2.1.trans (cr_o (by omega)).symm
        · rw [am_u_nk (by decide), am_u_ne (by decide)]; exact hs2.2.1
        · rw [am_u_at, nI_1]; rfl
        · rw [am_u_nk (by decide), am_u_ne (by decide)]; exact hs2.2.2.2.1
        · intro j hj k hk
          have hj : j < s.n := hj
          rw [am_u_ne (by decide), am_u_ne (by decide)]
          exact (hs2.2.2.2.2.1 j hj k hk).trans (cr_o (by omega)).symm
        · intro k hk
          have hk : k < s.C + 1 := hk
          rw [am_u_ne (by decide)]
          by_cases y : k = s.C
          · subst y; exact am_u_at.trans cr_0.symm
          · rw [am_u_nk y]; exact (hs2.2.2.2.2.2.1 k (by omega)).trans (cr_o (by omega)).symm
        · intro k hk
          have hk : k < 4 * s.m := hk
          rw [am_u_ne (by decide), am_u_ne (by decide)]
          exact (hs2.2.2.2.2.2.2 k hk).trans (cr_o (by omega)).symm
    · refine sy_Model_isCarterHere_30 _ _ (fun k => absurd rfl k) (fun k => absurd rfl k) (fun _ => ?_)
      have z1 : ¬ (nCa B t (q + 6) s).1 = 0 := z1
      rw [bI_f z1] at h
      exact h I2 (frR.F ((f1.w (fun _ z => z) (show ∀ k ∈ [14], k ∈ [14, 15, 16] by decide)).tr f2) (by decide)) n2 (fun k => absurd k z1)
  · rw [hs.2.2.1] at z
    have zn : ¬ s.C < 4 := fun k => absurd ((nI_eq (b := 4) (by omega) (by decide)).mp z) (by omega)
    have e := x0 zn
    subst e
    have g := mFail_n (q := q) (w := 4) (by decide) hc
    rw [bI_f (show ¬ 1 + 8 * q + 4 = 0 by omega)] at h
    exact h _ (frR.F g.1 (by decide)) g.2.2 (fun k => absurd (show 1 + 8 * q + 4 = 0 from k) (by omega))
theorem sp_arePlaces {I : am_I} {L : am_L} {B : Nat → Nat} {t q P : Nat} {s : NS} {X : Nat × Nat × NS} (hT : tpM I B t) (hq : q ≤ t) (hc : mcu I q 0) (hW : isW B t q wPl = true) (hs : nsM I s) (hn16 : s.n ≤ 16) (hP : s.g 0 = nI P) (hP2 : P ≤ 10) (x1 : P = 0 → X = nPl B t (q + 6) s) (x0 : ¬ P = 0 → X = (1 + 8 * q + 4, 0, s))
    (h : ∀ I', frR I I' → I' 186 15 = nI X.1 → (X.1 = 0 → I' 186 14 = nI X.2.1 ∧ nsM I' X.2.2) → Q (some (.int (bI (X.1 = 0)))) I' L (gg Lx ρ)) : am_run (d + 4) m_Model_arePlacesHere [.ref 186, .int (nI q)] I L (gg Lx ρ) Q := by
  have hB := fun i hi => (hT.2.2 i hi).2
  have ht := hT.2.1
  have hq6 : q + 6 ≤ t := isW_le hq hW
  refine run_in rfl rfl ⟨rfl, rfl⟩ (sy_Model_arePlacesHere_0 _ (fun z => ?_) (fun z => ?_))
  · rw [hs.1, hP] at z
    have zn : P = 0 := Decidable.byContradiction fun k => z (nI_lt (a := 0) (by omega) (by omega))
    have e := x1 zn
    subst e
    refine sp_mPass hT hq (by decide) hW hc (fun I1 f1 c1 => ?_)
    have hT1 := tpM_fr f1 (by decide) (by decide) hT
    have c1 : mcu I1 (q + 6) 0 := c1
    refine sy_Model_arePlacesHere_18 _ ?_
    refine sp_numberHere hT1 hq6 c1 (fun z1 I2 f2 c2 n2 => ?_) (fun z1 I2 f2 n2 => ?_)
    · have f12 : frF [14, 15, 16] I I2 := (f1.w (fun _ z => z) (by decide)).tr f2
      have hs2 := nsM_F f12 (by decide) hs
      have ho : ∀ i, i ≠ 0 → (nPl B t (q + 6) s).2.2.g i = s.g i := fun i hi => if_neg hi
      refine sy_Model_arePlacesHere_25 _ _ (fun _ => ?_) (fun k => absurd k (by decide))
      rw [n2]
      have e0 : (nPl B t (q + 6) s).1 = 0 := z1
      rw [e0, bI_t rfl] at h
      refine h _ ((frR.F f12 (by decide)).uf (by simp)) ?_ (fun _ => ⟨?_, ?_, ?_, ?_, ?_, ?_, ?_, ?_⟩)
      · rw [am_u_nk (by decide)]; exact c2.2
      · rw [am_u_nk (by decide)]; exact c2.1
      · rw [am_u_at]; rfl
      · rw [am_u_nk (by decide)]; exact hs2.2.1
      · rw [am_u_nk (by decide)]; exact hs2.2.2.1
      · rw [am_u_nk (by decide)]; exact hs2.2.2.2.1
      · intro j hj k hk
        rw [am_u_ne (by decide), ho _ (by omega)]
        exact hs2.2.2.2.2.1 j hj k hk
      · intro k hk
        rw [am_u_ne (by decide), ho _ (by omega)]
        exact hs2.2.2.2.2.2.1 k hk
      · intro k hk
        rw [am_u_ne (by decide), ho _ (by omega)]
        exact hs2.2.2.2.2.2.2 k hk
    · refine sy_Model_arePlacesHere_25 _ _ (fun k => absurd rfl k) (fun _ => ?_)
      have z1 : ¬ (nPl B t (q + 6) s).1 = 0 := z1
      rw [bI_f z1] at h
      exact h I2 (frR.F ((f1.w (fun _ z => z) (show ∀ k ∈ [14], k ∈ [14, 15, 16] by decide)).tr f2) (by decide)) n2 (fun k => absurd k z1)
  · rw [hs.1, hP] at z
    have zn : ¬ P = 0 := fun k => by rw [k] at z; exact absurd z (by decide)
    have e := x0 zn
    subst e
    have g := mFail_n (q := q) (w := 4) (by decide) hc
    rw [bI_f (show ¬ 1 + 8 * q + 4 = 0 by omega)] at h
    exact h _ (frR.F g.1 (by decide)) g.2.2 (fun k => absurd (show 1 + 8 * q + 4 = 0 from k) (by omega))
theorem sp_isLoad {I : am_I} {L : am_L} {B : Nat → Nat} {t q : Nat} {s : NS} {X : Nat × Nat × NS} (hT : tpM I B t) (hq : q ≤ t) (hc : mcu I q 0) (hW : isW B t q wLo = true) (hs : nsM I s) (hn : s.m ≤ 8) (hn16 : s.n ≤ 16) (hC4 : s.C ≤ 4) (x1 : s.m < 8 → X = nLo B t (q + 4) s) (x0 : ¬ s.m < 8 → X = (1 + 8 * q + 4, 0, s))
    (h : ∀ I', frR I I' → I' 186 15 = nI X.1 → (X.1 = 0 → I' 186 14 = nI X.2.1 ∧ nsM I' X.2.2) → Q (some (.int (bI (X.1 = 0)))) I' L (gg Lx ρ)) : am_run (d + 4) m_Model_isLoadHere [.ref 186, .int (nI q)] I L (gg Lx ρ) Q := by
  have hB := fun i hi => (hT.2.2 i hi).2
  have ht := hT.2.1
  have hq4 : q + 4 ≤ t := isW_le hq hW
  refine run_in rfl rfl ⟨rfl, rfl⟩ (sy_Model_isLoadHere_0 _ (fun z => ?_) (fun z => ?_))
  · rw [hs.2.2.2.1] at z
    have zn : s.m < 8 := by
      have : s.m ≠ 8 := fun k => z (by rw [k]; rfl)
      omega
    have e := x1 zn
    subst e
    have a0 := lo1_q hB ht hq4
    have a1 := q1_q (h := s.g 0 - 1) hB ht a0.1
    have a2 := q2_q (h := s.g 0 - 1) hB ht a0.1
    refine sp_mPass hT hq (by decide) hW hc (fun I1 f1 c1 => ?_)
    have hT1 := tpM_fr f1 (by decide) (by decide) hT
    have c1 : mcu I1 (q + 4) 0 := c1
    have e10 : I1 186 10 = nI s.m := by rw [f1.2 10 (by decide)]; exact hs.2.2.2.1
    have e4 : (4 : Int32) * nI s.m = nI (4 * s.m) := pk_mul 4 s.m
    refine sy_Model_isLoadHere_20 _ _ ?_
    rw [e10, e4]
    refine sp_numberHere hT1 hq4 c1 (fun z1 I2 f2 c2 n2 => ?_) (fun z1 I2 f2 n2 => ?_)
    · have z1 : (lo1 B t (q + 4)).1 = 0 := z1
      have c2 : mcu I2 (lo1 B t (q + 4)).2.1 0 := c2
      have n2 : I2 186 16 = nI (lo1 B t (q + 4)).2.2 := n2
      have f12 : frF [14, 15, 16] I I2 := (f1.w (fun _ z => z) (by decide)).tr f2
      have e41 : nI (4 * s.m) + 1 = nI (4 * s.m + 1) := nI_add _ 1
      have e43 : nI (4 * s.m) + 3 = nI (4 * s.m + 3) := nI_add _ 3
      refine sy_Model_isLoadHere_34 _ _ _ (fun _ => ?_) (fun _ => ?_) (fun k => absurd k (by decide))
      · exact vp_in_nI (by omega) (by decide)
      · rw [nI_clamp (by omega), e41, n2]
        have g2 : frR I (am_u I2 194 (4 * s.m) (nI (lo1 B t (q + 4)).2.2)) := (frR.F f12 (by decide)).u (by simp)
        have e7 : am_u I2 194 (4 * s.m) (nI (lo1 B t (q + 4)).2.2) 186 7 = s.g 0 := by rw [am_u_ne (by decide), f12.2 7 (by decide)]; exact hs.1
        refine sp_areTwo (g2.T hT) a0.1 ⟨by rw [am_u_ne (by decide)]; exact c2.1, by rw [am_u_ne (by decide)]; exact c2.2⟩ e7 ⟨fun k => absurd rfl k, fun _ => by omega⟩ (fun z2 z3 J fJ cJ => ?_) (fun z I3 f3 e3 => ?_)
        · rw [if_pos rfl]
          have g3 : frR I (am_u (am_u J 194 (4 * s.m + 1) (nI (q1 B t (lo1 B t (q + 4)).2.1 (s.g 0 - 1)).2.2)) 194 (4 * s.m + 1 + 1) (nI (q2 B t (lo1 B t (q + 4)).2.1 (s.g 0 - 1)).2.2)) := ((g2.tr (frR.F fJ (by decide))).u (by simp)).u (by simp)
          refine sy_Model_isLoadHere_57 _ _ _ (fun _ => ?_) (fun k => absurd k (by decide))
          refine sp_numberHere (g3.T hT) a2.1 ⟨by rw [am_u_ne (by decide), am_u_ne (by decide)]; exact cJ.1, by rw [am_u_ne (by decide), am_u_ne (by decide)]; exact cJ.2⟩ (fun z4 I4 f4 c4 n4 => ?_) (fun z4 I4 f4 n4 => ?_)
          · have z4 : (lo4 B t (q + 4) (s.g 0 - 1)).1 = 0 := z4
            have c4 : mcu I4 (lo4 B t (q + 4) (s.g 0 - 1)).2.1 0 := c4
            have n4 : I4 186 16 = nI (lo4 B t (q + 4) (s.g 0 - 1)).2.2 := n4
            have g4 := g3.tr (frR.F f4 (by decide))
            have ff4 : ∀ k, k ≠ 14 → k ≠ 15 → k ≠ 16 → I4 186 k = I 186 k := by
              intro k y1 y2 y3
              have yk : k ∉ [14, 15, 16] := by simp only [List.mem_cons, List.not_mem_nil, or_false]; omega
              rw [f4.2 k yk, am_u_ne (by decide), am_u_ne (by decide), fJ.2 k yk, am_u_ne (by decide), f12.2 k yk]
            refine sy_Model_isLoadHere_69 _ _ _ (fun _ => ?_) (fun _ => ?_) (fun k => absurd k (by decide))
            · rw [e43]; exact vp_in_nI (by omega) (by decide)
            · rw [e43, nI_clamp (by omega), n4]
              have e0 : (nLo B t (q + 4) s).1 = 0 := ff_0.mpr ⟨ff_0.mpr ⟨ff_0.mpr ⟨z1, z2⟩, z3⟩, z4⟩
              rw [e0, bI_t rfl] at h
              have i10 : I4 186 10 = nI s.m := (ff4 10 (by decide) (by decide) (by decide)).trans hs.2.2.2.1
              rw [i10]
              refine h _ ((g4.u (by simp)).uf (by simp)) ?_ (fun _ => ⟨?_, ?_, ?_, ?_, ?_, ?_, ?_, ?_⟩)
              · rw [am_u_nk (by decide), am_u_ne (by decide)]; exact c4.2
              · rw [am_u_nk (by decide), am_u_ne (by decide)]; exact c4.1
              · rw [am_u_nk (by decide), am_u_ne (by decide), ff4 7 (by decide) (by decide) (by decide)]
                exact hs.1.trans (lr_o (by omega)).symm
              · rw [am_u_nk (by decide), am_u_ne (by decide), ff4 8 (by decide) (by decide) (by decide)]
                exact hs.2.1
              · rw [am_u_nk (by decide), am_u_ne (by decide), ff4 9 (by decide) (by decide) (by decide)]
                exact hs.2.2.1
              · rw [am_u_at, nI_1]; rfl
              · intro j hj k hk
                have hj : j < s.n := hj
                rw [am_u_ne (by decide), am_u_ne (by decide), f4.1 192 (by decide) (by decide), am_u_ne (by decide), am_u_ne (by decide), fJ.1 192 (by decide) (by decide), am_u_ne (by decide), f12.1 192 (by decide) (by decide)]
                exact (hs.2.2.2.2.1 j hj k hk).trans (lr_o (by omega)).symm
              · intro k hk
                have hk : k < s.C := hk
                rw [am_u_ne (by decide), am_u_ne (by decide), f4.1 193 (by decide) (by decide), am_u_ne (by decide), am_u_ne (by decide), fJ.1 193 (by decide) (by decide), am_u_ne (by decide), f12.1 193 (by decide) (by decide)]
                exact (hs.2.2.2.2.2.1 k hk).trans (lr_o (by omega)).symm
              · intro k hk
                have hk : k < 4 * (s.m + 1) := hk
                rw [am_u_ne (by decide)]
                by_cases y3 : k = 4 * s.m + 3
                · subst y3; exact am_u_at.trans (lr_3 (l := s.m)).symm
                · rw [am_u_nk y3, f4.1 194 (by decide) (by decide)]
                  by_cases y2 : k = 4 * s.m + 1 + 1
                  · subst y2; exact am_u_at.trans (lr_2 (l := s.m)).symm
                  · rw [am_u_nk y2]
                    by_cases y1 : k = 4 * s.m + 1
                    · subst y1; exact am_u_at.trans (lr_1 (l := s.m)).symm
                    · rw [am_u_nk y1, fJ.1 194 (by decide) (by decide)]
                      by_cases y0 : k = 4 * s.m
                      · subst y0; exact am_u_at.trans (lr_0 (l := s.m)).symm
                      · rw [am_u_nk y0, f12.1 194 (by decide) (by decide)]
                        exact (hs.2.2.2.2.2.2 k (by omega)).trans (lr_o (by omega)).symm
          · refine sy_Model_isLoadHere_69 _ _ _ (fun k => absurd rfl k) (fun k => absurd rfl k) (fun _ => ?_)
            have z4 : ¬ (lo4 B t (q + 4) (s.g 0 - 1)).1 = 0 := z4
            have ex : (nLo B t (q + 4) s).1 = (lo4 B t (q + 4) (s.g 0 - 1)).1 := by
              show ff (ff (ff _ _) _) _ = _
              rw [z1, z2, z3]; rfl
            rw [ex, bI_f z4] at h
            exact h I4 (g3.tr (frR.F f4 (by decide))) n4 (fun k => absurd k z4)
        · refine sy_Model_isLoadHere_57 _ _ _ (fun k => absurd rfl k) (fun _ => ?_)
          have ex : (nLo B t (q + 4) s).1 = ff (q1 B t (lo1 B t (q + 4)).2.1 (s.g 0 - 1)).1 (q2 B t (lo1 B t (q + 4)).2.1 (s.g 0 - 1)).1 := by
            show ff (ff (ff _ _) _) _ = _
            rw [z1, ff0]; exact if_neg z
          rw [ex, bI_f z] at h
          exact h I3 (g2.tr (frR.F f3 (by decide))) e3 (fun k => absurd k z)
    · refine sy_Model_isLoadHere_34 _ _ _ (fun k => absurd rfl k) (fun k => absurd rfl k) (fun _ => ?_)
      have z1 : ¬ (lo1 B t (q + 4)).1 = 0 := z1
      have ex : (nLo B t (q + 4) s).1 = (lo1 B t (q + 4)).1 := by
        show ff (ff (ff _ _) _) _ = _
        have e1 : ff (lo1 B t (q + 4)).1 (q1 B t (lo1 B t (q + 4)).2.1 (s.g 0 - 1)).1 = (lo1 B t (q + 4)).1 := if_neg z1
        rw [e1]
        have e2 : ff (lo1 B t (q + 4)).1 (q2 B t (lo1 B t (q + 4)).2.1 (s.g 0 - 1)).1 = (lo1 B t (q + 4)).1 := if_neg z1
        rw [e2]; exact if_neg z1
      rw [ex, bI_f z1] at h
      exact h I2 (frR.F ((f1.w (fun _ z => z) (show ∀ k ∈ [14], k ∈ [14, 15, 16] by decide)).tr f2) (by decide)) n2 (fun k => absurd k z1)
  · rw [hs.2.2.2.1] at z
    have zn : ¬ s.m < 8 := fun k => absurd ((nI_eq (b := 8) (by omega) (by decide)).mp z) (by omega)
    have e := x0 zn
    subst e
    have g := mFail_n (q := q) (w := 4) (by decide) hc
    rw [bI_f (show ¬ 1 + 8 * q + 4 = 0 by omega)] at h
    exact h _ (frR.F g.1 (by decide)) g.2.2 (fun k => absurd (show 1 + 8 * q + 4 = 0 from k) (by omega))
end NPO
