/-! ===== net: the reference's lines ===== -/
theorem frR.u {I I' : am_I} (h : frR I I') {a k : Nat} {v : Int32} (ha : a ∈ [192, 193, 194]) : frR I (am_u I' a k v) := frm.u h ha (by simp at ha; omega)
theorem frR.uf {I I' : am_I} (h : frR I I') {k : Nat} {v : Int32} (hk : k ∈ [7, 8, 9, 10, 14, 15, 16]) : frR I (am_u I' 186 k v) := frm.uf h hk
section NPN
variable {d Lx : Nat} {ρ : List (Nat × Nat)} {Q : am_Q}
theorem sp_isRoad {I : am_I} {L : am_L} {B : Nat → Nat} {t q : Nat} {s : NS} {X : Nat × Nat × NS} (hT : tpM I B t) (hq : q ≤ t) (hc : mcu I q 0) (hW : isW B t q wRo = true) (hs : nsM I s) (hn : s.n ≤ 16) (x1 : s.n < 16 → X = nRo B t (q + 4) s) (x0 : ¬ s.n < 16 → X = (1 + 8 * q + 4, 0, s))
    (h : ∀ I', frR I I' → I' 186 15 = nI X.1 → (X.1 = 0 → I' 186 14 = nI X.2.1 ∧ nsM I' X.2.2) → Q (some (.int (bI (X.1 = 0)))) I' L (gg Lx ρ)) : am_run (d + 4) m_Model_isRoadHere [.ref 186, .int (nI q)] I L (gg Lx ρ) Q := by
  have hB := fun i hi => (hT.2.2 i hi).2
  have ht := hT.2.1
  have hq4 : q + 4 ≤ t := isW_le hq hW
  refine run_in rfl rfl ⟨rfl, rfl⟩ (sy_Model_isRoadHere_0 _ (fun z => ?_) (fun z => ?_))
  · rw [hs.2.1] at z
    have zn : s.n < 16 := by
      have : s.n ≠ 16 := fun k => z (by rw [k]; rfl)
      omega
    have e := x1 zn
    subst e
    refine sp_mPass hT hq (by decide) hW hc (fun I1 f1 c1 => ?_)
    have hT1 := tpM_fr f1 (by decide) (by decide) hT
    have c1 : mcu I1 (q + 4) 0 := c1
    have e8 : I1 186 8 = nI s.n := by rw [f1.2 8 (by decide)]; exact hs.2.1
    have e4 : (4 : Int32) * nI s.n = nI (4 * s.n) := pk_mul 4 s.n
    have e7 : I1 186 7 = s.g 0 := by rw [f1.2 7 (by decide)]; exact hs.1
    refine sy_Model_isRoadHere_20 _ _ ?_
    rw [e8, e4]
    have a1 := q1_q (h := s.g 0 - 1) hB ht hq4
    have a2 := q2_q (h := s.g 0 - 1) hB ht hq4
    have a3 := ro3_q (h := s.g 0 - 1) hB ht hq4
    have a4 := ro4_q (h := s.g 0 - 1) hB ht hq4
    refine sp_areTwo hT1 hq4 c1 e7 ⟨fun _ => by omega, fun k => absurd k (by decide)⟩ (fun z1 z2 J fJ cJ => ?_) (fun z I2 f2 e2 => ?_)
    · rw [if_neg (by decide)]
      have g1 : frR I1 J := frR.F fJ (by decide)
      have g1 : frR I J := (frR.F f1 (by decide)).tr g1
      refine sy_Model_isRoadHere_33 _ _ _ (fun _ => ?_) (fun k => absurd k (by decide))
      have g2 : frR I (am_u (am_u J 192 (4 * s.n) (nI (q1 B t (q + 4) (s.g 0 - 1)).2.2)) 192 (4 * s.n + 1) (nI (q2 B t (q + 4) (s.g 0 - 1)).2.2)) := (g1.u (by simp)).u (by simp)
      refine sp_numberHere (g2.T hT) a2.1 ⟨by rw [am_u_ne (by decide), am_u_ne (by decide)]; exact cJ.1, by rw [am_u_ne (by decide), am_u_ne (by decide)]; exact cJ.2⟩ (fun z3 I3 f3 c3 n3 => ?_) (fun z3 I3 f3 n3 => ?_)
      · have z3 : (ro3 B t (q + 4) (s.g 0 - 1)).1 = 0 := z3
        have c3 : mcu I3 (ro3 B t (q + 4) (s.g 0 - 1)).2.1 0 := c3
        have n3 : I3 186 16 = nI (ro3 B t (q + 4) (s.g 0 - 1)).2.2 := n3
        have e42 : nI (4 * s.n) + 2 = nI (4 * s.n + 2) := nI_add _ 2
        have e43 : nI (4 * s.n) + 3 = nI (4 * s.n + 3) := nI_add _ 3
        refine sy_Model_isRoadHere_45 _ _ _ (fun _ => ?_) (fun _ => ?_) (fun k => absurd k (by decide))
        · rw [e42]; exact vp_in_nI (by omega) (by decide)
        · rw [e42, nI_clamp (by omega), n3]
          have g3 : frR I (am_u I3 192 (4 * s.n + 2) (nI (ro3 B t (q + 4) (s.g 0 - 1)).2.2)) := (g2.tr (frR.F f3 (by decide))).u (by simp)
          refine sp_numberHere (g3.T hT) a3.1 ⟨by rw [am_u_ne (by decide)]; exact c3.1, by rw [am_u_ne (by decide)]; exact c3.2⟩ (fun z4 I4 f4 c4 n4 => ?_) (fun z4 I4 f4 n4 => ?_)
          · have z4 : (ro4 B t (q + 4) (s.g 0 - 1)).1 = 0 := z4
            have c4 : mcu I4 (ro4 B t (q + 4) (s.g 0 - 1)).2.1 0 := c4
            have n4 : I4 186 16 = nI (ro4 B t (q + 4) (s.g 0 - 1)).2.2 := n4
            refine sy_Model_isRoadHere_69 _ _ _ (fun _ => ?_) (fun _ => ?_) (fun k => absurd k (by decide))
            · rw [e43]; exact vp_in_nI (by omega) (by decide)
            · rw [e43, nI_clamp (by omega), n4]
              have g4 := g3.tr (frR.F f4 (by decide))
              have e0 : (nRo B t (q + 4) s).1 = 0 := ff_0.mpr ⟨ff_0.mpr ⟨ff_0.mpr ⟨z1, z2⟩, z3⟩, z4⟩
              rw [e0, bI_t rfl] at h
              have i8 : I4 186 8 = nI s.n := by
                rw [f4.2 8 (by decide), am_u_ne (by decide), f3.2 8 (by decide), am_u_ne (by decide), am_u_ne (by decide), fJ.2 8 (by decide)]; exact e8
              rw [i8]
              refine h _ ((g4.u (by simp)).uf (by simp)) ?_ (fun _ => ⟨?_, ?_, ?_, ?_, ?_, ?_, ?_, ?_⟩)
              · rw [am_u_nk (by decide), am_u_ne (by decide)]; exact c4.2
              · rw [am_u_nk (by decide), am_u_ne (by decide)]; exact c4.1
              · rw [am_u_nk (by decide), am_u_ne (by decide), f4.2 7 (by decide), am_u_ne (by decide), f3.2 7 (by decide), am_u_ne (by decide), am_u_ne (by decide), fJ.2 7 (by decide), e7]
                exact (nr_o (by omega)).symm
              · rw [am_u_at, nI_1]; rfl
              · rw [am_u_nk (by decide), am_u_ne (by decide), f4.2 9 (by decide), am_u_ne (by decide), f3.2 9 (by decide), am_u_ne (by decide), am_u_ne (by decide), fJ.2 9 (by decide), f1.2 9 (by decide)]
                exact hs.2.2.1
              · rw [am_u_nk (by decide), am_u_ne (by decide), f4.2 10 (by decide), am_u_ne (by decide), f3.2 10 (by decide), am_u_ne (by decide), am_u_ne (by decide), fJ.2 10 (by decide), f1.2 10 (by decide)]
                exact hs.2.2.2.1
              · intro j hj k hk
                have hj : j < s.n + 1 := hj
                have e192 : ∀ i, i ≠ 4 * s.n + 3 → i ≠ 4 * s.n + 2 → i ≠ 4 * s.n + 1 → i ≠ 4 * s.n → am_u I4 192 (4 * s.n + 3) (nI (ro4 B t (q + 4) (s.g 0 - 1)).2.2) 192 i = I 192 i := by
                  intro i y3 y2 y1 y0
                  rw [am_u_nk y3, f4.1 192 (by decide) (by decide), am_u_nk y2, f3.1 192 (by decide) (by decide), am_u_nk y1, am_u_nk y0, fJ.1 192 (by decide) (by decide), f1.1 192 (by decide) (by decide)]
                rw [am_u_ne (by decide)]
                by_cases y : j = s.n
                · subst y
                  rcases (show k = 0 ∨ k = 1 ∨ k = 2 ∨ k = 3 by omega) with y | y | y | y
                  · subst y
                    rw [am_u_nk (by omega), f4.1 192 (by decide) (by decide), am_u_nk (by omega), f3.1 192 (by decide) (by decide), am_u_nk (by omega)]
                    exact am_u_at.trans nr_0.symm
                  · subst y
                    rw [am_u_nk (by omega), f4.1 192 (by decide) (by decide), am_u_nk (by omega), f3.1 192 (by decide) (by decide), am_u_at]
                    exact nr_1.symm
                  · subst y
                    rw [am_u_nk (by omega), f4.1 192 (by decide) (by decide), am_u_at]
                    exact nr_2.symm
                  · subst y
                    rw [am_u_at]
                    exact nr_3.symm
                · rw [e192 _ (by omega) (by omega) (by omega) (by omega)]
                  exact (hs.2.2.2.2.1 j (by omega) k hk).trans (nr_o (by omega)).symm
              · intro k hk
                have hk : k < s.C := hk
                rw [am_u_ne (by decide), am_u_ne (by decide), f4.1 193 (by decide) (by decide), am_u_ne (by decide), f3.1 193 (by decide) (by decide), am_u_ne (by decide), am_u_ne (by decide), fJ.1 193 (by decide) (by decide), f1.1 193 (by decide) (by decide)]
                exact (hs.2.2.2.2.2.1 k hk).trans (nr_o (by omega)).symm
              · intro k hk
                have hk : k < 4 * s.m := hk
                rw [am_u_ne (by decide), am_u_ne (by decide), f4.1 194 (by decide) (by decide), am_u_ne (by decide), f3.1 194 (by decide) (by decide), am_u_ne (by decide), am_u_ne (by decide), fJ.1 194 (by decide) (by decide), f1.1 194 (by decide) (by decide)]
                exact (hs.2.2.2.2.2.2 k hk).trans (nr_o (by omega)).symm
          · refine sy_Model_isRoadHere_69 _ _ _ (fun k => absurd rfl k) (fun k => absurd rfl k) (fun _ => ?_)
            have z4 : ¬ (ro4 B t (q + 4) (s.g 0 - 1)).1 = 0 := z4
            have ex : (nRo B t (q + 4) s).1 = (ro4 B t (q + 4) (s.g 0 - 1)).1 := by
              show ff (ff (ff _ _) _) _ = _
              rw [z1, z2, z3]; rfl
            rw [ex, bI_f z4] at h
            exact h I4 (g3.tr (frR.F f4 (by decide))) n4 (fun k => absurd k z4)
      · refine sy_Model_isRoadHere_45 _ _ _ (fun k => absurd rfl k) (fun k => absurd rfl k) (fun _ => ?_)
        have z3 : ¬ (ro3 B t (q + 4) (s.g 0 - 1)).1 = 0 := z3
        have ex : (nRo B t (q + 4) s).1 = (ro3 B t (q + 4) (s.g 0 - 1)).1 := by
          show ff (ff (ff _ _) _) _ = _
          rw [z1, z2]; exact if_neg z3
        rw [ex, bI_f z3] at h
        exact h I3 (g2.tr (frR.F f3 (by decide))) n3 (fun k => absurd k z3)
    · refine sy_Model_isRoadHere_33 _ _ _ (fun k => absurd rfl k) (fun _ => ?_)
      have ex : (nRo B t (q + 4) s).1 = ff (q1 B t (q + 4) (s.g 0 - 1)).1 (q2 B t (q + 4) (s.g 0 - 1)).1 := by
        show ff (ff (ff _ _) _) _ = _
        have e1 : ff (ff (q1 B t (q + 4) (s.g 0 - 1)).1 (q2 B t (q + 4) (s.g 0 - 1)).1) (ro3 B t (q + 4) (s.g 0 - 1)).1 = ff (q1 B t (q + 4) (s.g 0 - 1)).1 (q2 B t (q + 4) (s.g 0 - 1)).1 := if_neg z
        rw [e1]; exact if_neg z
      rw [ex, bI_f z] at h
      exact h I2 ((frR.F f1 (by decide)).tr (frR.F f2 (by decide))) e2 (fun k => absurd k z)
  · rw [hs.2.1] at z
    have zn : ¬ s.n < 16 := fun k => absurd ((nI_eq (b := 16) (by omega) (by decide)).mp z) (by omega)
    have e := x0 zn
    subst e
    have g := mFail_n (q := q) (w := 4) (by decide) hc
    rw [bI_f (show ¬ 1 + 8 * q + 4 = 0 by omega)] at h
    exact h _ (frR.F g.1 (by decide)) g.2.2 (fun k => absurd (show 1 + 8 * q + 4 = 0 from k) (by omega))
end NPN
