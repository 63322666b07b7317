/-! ===== net: the reference ===== -/
def frT (I I' : am_I) : Prop := frm [192, 193, 194] [7, 8, 9, 10, 14, 15, 16, 20] I I'
theorem frT.rf {I : am_I} : frT I I := frm.rf
theorem frT.tr {I I' I2 : am_I} (h : frT I I') (g : frT I' I2) : frT I I2 := frm.tr h g
theorem frT.T {I I' : am_I} {B : Nat → Nat} {t : Nat} (h : frT I I') (hT : tpM I B t) : tpM I' B t := tpM_fr h (by decide) (by decide) hT
theorem frT.R {I I' : am_I} (h : frR I I') : frT I I' := frm.w h (fun _ z => z) (by decide)
theorem frT.F {F : List Nat} {I I' : am_I} (h : frF F I I') (hF : ∀ k ∈ F, k ∈ [7, 8, 9, 10, 14, 15, 16, 20]) : frT I I' := frm.w h (fun _ z => absurd z (List.not_mem_nil)) hF
section NPP
variable {d Lx : Nat} {ρ : List (Nat × Nat)} {Q : am_Q}
theorem k_Pl : (123610792682867 : Int64) = lN (pack wPl) := by decide
theorem k_Ro : (1919902052 : Int64) = lN (pack wRo) := by decide
theorem k_Ca : (109270183208306 : Int64) = lN (pack wCa) := by decide
theorem k_Lo : (1819238756 : Int64) = lN (pack wLo) := by decide
theorem sp_netLine {I : am_I} {L : am_L} {B : Nat → Nat} {f : Nat → Int32} {t c p : Nat} {s : NS} (hT : tpM I B t) (hp : p ≤ t) (hc : mcu I (sk B t p) 0) (hs : nsM I s) (hw : nsW f c s) (h40 : c < 40)
    (hW : isW B t (sk B t p) wPl = true ∨ isW B t (sk B t p) wRo = true ∨ isW B t (sk B t p) wCa = true ∨ isW B t (sk B t p) wLo = true)
    (h : ∀ I', frR I I' → I' 186 15 = nI (ncl B t c p s).1 → ((ncl B t c p s).1 = 0 → I' 186 14 = nI (ncl B t c p s).2.1 ∧ nsM I' (ncl B t c p s).2.2) → Q (some (.int (bI ((ncl B t c p s).1 = 0)))) I' L (gg Lx ρ)) : am_run (d + 5) m_Model_netLineHere [.ref 186, .int (nI (sk B t p))] I L (gg Lx ρ) Q := by
  have ht := hT.2.1
  have hk := (sk_le (B := B) hp).2
  have hid := sk_id (B := B) hp ht
  obtain ⟨w1, w2, w3, w4, w5, w6, _⟩ := hw
  refine run_in rfl rfl ⟨rfl, rfl⟩ (sy_Model_netLineHere_0 _ ?_)
  refine sp_isWord (w := wPl) hT hk (by decide) (by decide) k_Pl hc (fun I1 f1 c1 => ?_)
  rw [hid] at c1 ⊢
  have hT1 := tpM_fr f1 (by decide) (by decide) hT
  have hs1 := nsM_F f1 (by decide) hs
  have g1 := frR.F f1 (by decide)
  by_cases y1 : isW B t (sk B t p) wPl = true
  · refine sy_Model_netLineHere_7 _ _ (fun z => absurd y1 (bI0 z)) (fun z => absurd y1 (bI0 z)) (fun _ => ?_)
    refine sp_arePlaces hT1 hk c1 y1 hs1 w4 w1 w2 (X := ncl B t c p s) (fun z => ?_) (fun z => ?_) (fun I2 g2 e2 o2 => ?_)
    · unfold ncl; rw [if_pos y1, if_pos (w3.mpr z)]
    · unfold ncl; rw [if_pos y1, if_neg (fun k => z (w3.mp k))]
    · exact sy_Model_netLineHere_15 _ _ (h I2 (g1.tr g2) e2 o2) (bI_01 _)
  · have e7 : I1 186 7 = nI s.P := hs1.1.trans w1
    refine sy_Model_netLineHere_7 _ _ (fun _ z => ?_) (fun _ z => ?_) (fun z => absurd (bI_f y1) z)
    · have zc : 0 < c := by
        have : s.P ≠ 0 := fun k => z (by rw [e7, k]; rfl)
        have : c ≠ 0 := fun k => this (w3.mp k)
        omega
      refine sp_isWord (w := wRo) hT1 hk (by decide) (by decide) k_Ro c1 (fun I2 f2 c2 => ?_)
      rw [hid] at c2 ⊢
      have hT2 := tpM_fr f2 (by decide) (by decide) hT1
      have hs2 := nsM_F f2 (by decide) hs1
      have g2 := g1.tr (frR.F f2 (by decide))
      by_cases y2 : isW B t (sk B t p) wRo = true
      · refine sy_Model_netLineHere_37 _ _ (fun z => absurd y2 (bI0 z)) (fun _ => ?_)
        refine sp_isRoad hT2 hk c2 y2 hs2 w4 (X := ncl B t c p s) (fun z => ?_) (fun z => ?_) (fun I3 g3 e3 o3 => ?_)
        · unfold ncl; rw [if_neg y1, if_pos y2, if_pos ⟨zc, h40, z⟩]
        · unfold ncl; rw [if_neg y1, if_pos y2, if_neg (fun k => z k.2.2)]
        · exact sy_Model_netLineHere_45 _ _ (h I3 (g2.tr g3) e3 o3) (bI_01 _)
      · refine sy_Model_netLineHere_37 _ _ (fun _ => ?_) (fun z => absurd (bI_f y2) z)
        refine sp_isWord (w := wCa) hT2 hk (by decide) (by decide) k_Ca c2 (fun I3 f3 c3 => ?_)
        rw [hid] at c3 ⊢
        have hT3 := tpM_fr f3 (by decide) (by decide) hT2
        have hs3 := nsM_F f3 (by decide) hs2
        have g3 := g2.tr (frR.F f3 (by decide))
        by_cases y3 : isW B t (sk B t p) wCa = true
        · refine sy_Model_netLineHere_55 _ _ (fun z => absurd y3 (bI0 z)) (fun _ => ?_)
          refine sp_isCarter hT3 hk c3 y3 hs3 w5 w4 (X := ncl B t c p s) (fun z => ?_) (fun z => ?_) (fun I4 g4 e4 o4 => ?_)
          · unfold ncl; rw [if_neg y1, if_neg y2, if_pos y3, if_pos ⟨zc, h40, z⟩]
          · unfold ncl; rw [if_neg y1, if_neg y2, if_pos y3, if_neg (fun k => z k.2.2)]
          · exact sy_Model_netLineHere_63 _ _ (h I4 (g3.tr g4) e4 o4) (bI_01 _)
        · refine sy_Model_netLineHere_55 _ _ (fun _ => ?_) (fun z => absurd (bI_f y3) z)
          have y4 : isW B t (sk B t p) wLo = true := by
            rcases hW with k | k | k | k
            · exact absurd k y1
            · exact absurd k y2
            · exact absurd k y3
            · exact k
          refine sp_isLoad hT3 hk c3 y4 hs3 w6 w4 w5 (X := ncl B t c p s) (fun z => ?_) (fun z => ?_) (fun I4 g4 e4 o4 => ?_)
          · unfold ncl; rw [if_neg y1, if_neg y2, if_neg y3, if_pos y4, if_pos ⟨zc, h40, z⟩]
          · unfold ncl; rw [if_neg y1, if_neg y2, if_neg y3, if_pos y4, if_neg (fun k => z k.2.2)]
          · exact sy_Model_netLineHere_71 _ _ (h I4 (g3.tr g4) e4 o4) (bI_01 _)
    · rw [e7] at z
      have zc : c = 0 := w3.mpr ((nI_eq (b := 0) (by omega) (by decide)).mp z)
      have e : ncl B t c p s = (1 + 8 * sk B t p + 4, 0, s) := by
        unfold ncl
        rw [if_neg y1]
        by_cases y2 : isW B t (sk B t p) wRo = true
        · rw [if_pos y2, if_neg (fun k => absurd k.1 (by omega))]
        · rw [if_neg y2]
          by_cases y3 : isW B t (sk B t p) wCa = true
          · rw [if_pos y3, if_neg (fun k => absurd k.1 (by omega))]
          · rw [if_neg y3]
            have y4 : isW B t (sk B t p) wLo = true := by
              rcases hW with k | k | k | k
              · exact absurd k y1
              · exact absurd k y2
              · exact absurd k y3
              · exact k
            rw [if_pos y4, if_neg (fun k => absurd k.1 (by omega))]
      rw [e, bI_f (show ¬ 1 + 8 * sk B t p + 4 = 0 by omega)] at h
      have g := mFail_n (q := sk B t p) (w := 4) (by decide) c1
      exact h _ (g1.tr (frR.F g.1 (by decide))) g.2.2 (fun k => absurd (show 1 + 8 * sk B t p + 4 = 0 from k) (by omega))
theorem ncl_late {B : Nat → Nat} {t c p : Nat} {s : NS} (hc : c = 40) (hW : isW B t (sk B t p) wPl = true ∨ isW B t (sk B t p) wRo = true ∨ isW B t (sk B t p) wCa = true ∨ isW B t (sk B t p) wLo = true) : ncl B t c p s = (1 + 8 * sk B t p + 4, 0, s) := by
  unfold ncl
  by_cases y1 : isW B t (sk B t p) wPl = true
  · rw [if_pos y1, if_neg (by omega)]
  · rw [if_neg y1]
    by_cases y2 : isW B t (sk B t p) wRo = true
    · rw [if_pos y2, if_neg (fun k => absurd k.2.1 (by omega))]
    · rw [if_neg y2]
      by_cases y3 : isW B t (sk B t p) wCa = true
      · rw [if_pos y3, if_neg (fun k => absurd k.2.1 (by omega))]
      · rw [if_neg y3]
        have y4 : isW B t (sk B t p) wLo = true := by
          rcases hW with k | k | k | k
          · exact absurd k y1
          · exact absurd k y2
          · exact absurd k y3
          · exact k
        rw [if_pos y4, if_neg (fun k => absurd k.2.1 (by omega))]
theorem sp_netClause {I : am_I} {L : am_L} {B : Nat → Nat} {f : Nat → Int32} {t c p : Nat} {s : NS} (hT : tpM I B t) (hp : p ≤ t) (hc : mcu I p 0) (h17 : I 186 17 = 6) (h20 : I 186 20 = nI c) (hs : nsM I s) (hw : nsW f c s) (h40 : c ≤ 40)
    (h : ∀ I', frT I I' → I' 186 15 = nI (ncl B t c p s).1 → ((ncl B t c p s).1 = 0 → I' 186 14 = nI (ncl B t c p s).2.1 ∧ nsM I' (ncl B t c p s).2.2 ∧ I' 186 20 = nI (c + 1)) → Q (some (.int (bI ((ncl B t c p s).1 = 0)))) I' L (gg Lx ρ)) : am_run (d + 6) m_Model_clauseHere [.ref 186] I L (gg Lx ρ) Q := by
  have ht := hT.2.1
  have hk := (sk_le (B := B) hp).2
  have hid := sk_id (B := B) hp ht
  refine run_in rfl rfl ⟨rfl, rfl⟩ (sy_Model_clauseHere_0 ?_)
  refine sp_see hT hp hc (fun I1 f1 c1 => ?_)
  have hT1 := tpM_fr f1 (by decide) (by decide) hT
  have e17 : I1 186 17 = 6 := by rw [f1.2 17 (by decide)]; exact h17
  refine sy_Model_clauseHere_4 _ _ _ _ (fun z => absurd e17 z) (fun _ => ?_)
  rw [c1.1]
  have found : ∀ {J : am_I}, frF [14] I J → mcu J (sk B t p) 0 → (isW B t (sk B t p) wPl = true ∨ isW B t (sk B t p) wRo = true ∨ isW B t (sk B t p) wCa = true ∨ isW B t (sk B t p) wLo = true) → (¬ J 186 20 = 40 → am_run (d + 5) m_Model_netLineHere [.ref 186, .int (nI (sk B t p))] (am_u J 186 20 ((J 186 20) + 1)) L (gg Lx ρ) (fun r I' L' G' => am_W am_all (am_run (d + 5)) e_Model_clauseHere Q 158 [.ref 186, .int (nI (sk B t p)), .int 1, .int 1] (r.toList ++ ([] : List Value)) I' L' G' 0 0)) ∧ (J 186 20 = 40 → Q (some (.int 0)) (mFail J 4 (nI (sk B t p))) L (gg Lx ρ)) := by
    intro J fJ cJ hW
    have gJ := frT.F fJ (by decide)
    have e20 : J 186 20 = nI c := by rw [fJ.2 20 (by decide)]; exact h20
    constructor
    · intro z
      rw [e20] at z ⊢
      have zc : c < 40 := by
        have : c ≠ 40 := fun k => z (by rw [k]; rfl)
        omega
      rw [nI_1]
      have g2 : frT I (am_u J 186 20 (nI (c + 1))) := frm.uf gJ (by simp)
      have hsJ : nsM (am_u J 186 20 (nI (c + 1))) s := nsM_F (F := [20]) (frm.rf.uf (by simp)) (by decide) (nsM_F fJ (by decide) hs)
      refine sp_netLine (g2.T hT) hp ⟨by rw [am_u_nk (by decide)]; exact cJ.1, by rw [am_u_nk (by decide)]; exact cJ.2⟩ hsJ hw zc hW (fun I2 g3 e3 o3 => ?_)
      refine sy_Model_clauseHere_158 _ _ _ _ (h I2 (g2.tr (frT.R g3)) e3 (fun k => ⟨(o3 k).1, (o3 k).2, ?_⟩)) (bI_01 _)
      rw [g3.2 20 (by decide), am_u_at]
    · intro z
      rw [e20] at z
      have zc : c = 40 := (nI_eq (b := 40) (by omega) (by decide)).mp z
      have e := ncl_late (s := s) zc hW
      rw [e, bI_f (show ¬ 1 + 8 * sk B t p + 4 = 0 by omega)] at h
      have g := mFail_n (q := sk B t p) (w := 4) (by decide) cJ
      exact h _ (gJ.tr (frT.F g.1 (by decide))) g.2.2 (fun k => absurd (show 1 + 8 * sk B t p + 4 = 0 from k) (by omega))
  refine sp_isWord (w := wPl) hT1 hk (by decide) (by decide) k_Pl c1 (fun I2 f2 c2 => ?_)
  rw [hid] at c2 ⊢
  have hT2 := tpM_fr f2 (by decide) (by decide) hT1
  have f12 := f1.tr f2
  by_cases y1 : isW B t (sk B t p) wPl = true
  · have g := found f12 c2 (Or.inl y1)
    exact sy_Model_clauseHere_36 _ _ _ _ (fun _ z => absurd z (by decide)) (fun _ z => absurd z (by decide)) (fun _ _ z => g.1 z) (fun _ _ z => g.2 z) (fun z => absurd y1 (bI0 z))
  · refine sy_Model_clauseHere_36 _ _ _ _ (fun z => absurd (bI_f y1) z) (fun z => absurd (bI_f y1) z) (fun z => absurd (bI_f y1) z) (fun z => absurd (bI_f y1) z) (fun _ => ?_)
    refine sp_isWord (w := wRo) hT2 hk (by decide) (by decide) k_Ro c2 (fun I3 f3 c3 => ?_)
    rw [hid] at c3 ⊢
    have hT3 := tpM_fr f3 (by decide) (by decide) hT2
    have f13 := f12.tr f3
    by_cases y2 : isW B t (sk B t p) wRo = true
    · have g := found f13 c3 (Or.inr (Or.inl y2))
      exact sy_Model_clauseHere_46 _ _ _ _ (fun _ z => absurd z (by decide)) (fun _ z => absurd z (by decide)) (fun _ _ z => g.1 z) (fun _ _ z => g.2 z) (fun z => absurd y2 (bI0 z))
    · refine sy_Model_clauseHere_46 _ _ _ _ (fun z => absurd (bI_f y2) z) (fun z => absurd (bI_f y2) z) (fun z => absurd (bI_f y2) z) (fun z => absurd (bI_f y2) z) (fun _ => ?_)
      refine sp_isWord (w := wCa) hT3 hk (by decide) (by decide) k_Ca c3 (fun I4 f4 c4 => ?_)
      rw [hid] at c4 ⊢
      have hT4 := tpM_fr f4 (by decide) (by decide) hT3
      have f14 := f13.tr f4
      by_cases y3 : isW B t (sk B t p) wCa = true
      · have g := found f14 c4 (Or.inr (Or.inr (Or.inl y3)))
        exact sy_Model_clauseHere_56 _ _ _ _ (fun _ z => absurd z (by decide)) (fun _ z => absurd z (by decide)) (fun _ _ z => g.1 z) (fun _ _ z => g.2 z) (fun z => absurd y3 (bI0 z))
      · refine sy_Model_clauseHere_56 _ _ _ _ (fun z => absurd (bI_f y3) z) (fun z => absurd (bI_f y3) z) (fun z => absurd (bI_f y3) z) (fun z => absurd (bI_f y3) z) (fun _ => ?_)
        refine sp_isWord (w := wLo) hT4 hk (by decide) (by decide) k_Lo c4 (fun I5 f5 c5 => ?_)
        rw [hid] at c5 ⊢
        have f15 := f14.tr f5
        by_cases y4 : isW B t (sk B t p) wLo = true
        · have g := found f15 c5 (Or.inr (Or.inr (Or.inr y4)))
          exact sy_Model_clauseHere_66 _ _ _ _ (fun z => absurd y4 (bI0 z)) (fun _ z => absurd z (by decide)) (fun _ z => absurd z (by decide)) (fun _ _ z => g.1 z) (fun _ _ z => g.2 z)
        · refine sy_Model_clauseHere_66 _ _ _ _ (fun _ => ?_) (fun z => absurd (bI_f y4) z) (fun z => absurd (bI_f y4) z) (fun z => absurd (bI_f y4) z) (fun z => absurd (bI_f y4) z)
          have e : ncl B t c p s = (1 + 8 * sk B t p, 0, s) := by unfold ncl; rw [if_neg y1, if_neg y2, if_neg y3, if_neg y4]
          rw [e, bI_f (show ¬ 1 + 8 * sk B t p = 0 by omega)] at h
          have g := mFail_n (q := sk B t p) (w := 0) (by decide) c5
          exact h _ ((frT.F f15 (by decide)).tr (frT.F g.1 (by decide))) g.2.2 (fun k => absurd (show 1 + 8 * sk B t p = 0 from k) (by omega))
theorem lp_nall {L : am_L} {B : Nat → Nat} {f : Nat → Int32} {t : Nat} {I0 : am_I} : ∀ F c p I s, c + F = 41 → c ≤ 40 → p ≤ t → tpM I B t → I 186 17 = 6 → nsW f c s → frT I0 I →
    (∀ I', frT I0 I' → I' 186 15 = nI (ntL B t F c p s).1 → ((ntL B t F c p s).1 = 0 → nsM I' (ntL B t F c p s).2) → Q (some (.int (bI ((ntL B t F c p s).1 = 0)))) (am_u I' 186 1 0) L (gg Lx ρ)) →
    I 186 15 = nI (ncl B t c p s).1 → ((ncl B t c p s).1 = 0 → I 186 14 = nI (ncl B t c p s).2.1 ∧ nsM I (ncl B t c p s).2.2 ∧ I 186 20 = nI (c + 1)) →
    am_W am_all (am_run (d + 6)) e_Model_readsAll Q 35 [.ref 186, .int (bI ((ncl B t c p s).1 = 0))] [] I L (gg Lx ρ) 0 0 := by
  intro F
  induction F with
  | zero => intro c p I s h1 h2; omega
  | succ F ih =>
    intro c p I s h1 h2 hp hT h17 hw g0 h he ho
    have hB := fun i hi => (hT.2.2 i hi).2
    have ht := hT.2.1
    have hle := ncl_le (c := c) (s := s) hB ht hp
    by_cases z : (ncl B t c p s).1 = 0
    · obtain ⟨o1, o2, o3⟩ := ho z
      have hc : mcu I (ncl B t c p s).2.1 0 := ⟨o1, by rw [he, z]⟩
      refine sy_Model_readsAll_35 _ (fun k => absurd z (bI0 k)) (fun k => absurd z (bI0 k)) (fun _ => ?_)
      refine sp_see hT hle.1 hc (fun I1 f1 c1 => ?_)
      have hT1 := tpM_fr f1 (by decide) (by decide) hT
      have g1 := g0.tr (frT.F f1 (by decide))
      have hk := (sk_le (B := B) hle.1).2
      have hid := sk_id (B := B) hle.1 ht
      refine sy_Model_readsAll_43 _ _ (fun _ k => absurd z (bI0 k)) (fun _ k => absurd z (bI0 k)) (fun y2 _ => ?_) (fun y2 => ?_)
      · refine sp_see hT1 hk c1 (fun I2 f2 c2 => ?_)
        rw [hid] at c2
        have ep : pk B t (sk B t (ncl B t c p s).2.1) = pk B t (ncl B t c p s).2.1 := by unfold pk; rw [hid]
        rw [ep]
        have g2 := g1.tr (frT.F f2 (by decide))
        have s2 := nsM_F f2 (by decide) (nsM_F f1 (by decide) o2)
        by_cases y : pk B t (ncl B t c p s).2.1 = -1
        · have e : ntL B t (F + 1) c p s = (0, (ncl B t c p s).2.2) := by rw [ntL, if_neg (fun q => q z), if_pos y]
          rw [e, bI_t rfl] at h
          refine sy_Model_readsAll_74 _ _ (fun _ k => absurd c2.2 k) (fun _ _ => ?_) (fun k => absurd y k) (fun k => absurd y k)
          exact h I2 g2 c2.2 (fun _ => s2)
        · have e : ntL B t (F + 1) c p s = (1 + 8 * sk B t (ncl B t c p s).2.1, s) := by rw [ntL, if_neg (fun q => q z), if_neg y, if_neg y2]
          have en : ¬ (1 + 8 * sk B t (ncl B t c p s).2.1) = 0 := by omega
          rw [e, bI_f en] at h
          have g := mFail_n (q := sk B t (ncl B t c p s).2.1) (w := 0) (by decide) c2
          refine sy_Model_readsAll_74 _ _ (fun k => absurd k y) (fun k => absurd k y) (fun _ _ => ?_) (fun _ k => ?_)
          · rw [c2.1]
            exact h _ (g2.tr (frT.F g.1 (by decide))) g.2.2 (fun k => absurd k en)
          · rw [c2.1] at k
            exact absurd (g.2.2.symm.trans k) (nI_ne0 (n := 1 + 8 * sk B t (ncl B t c p s).2.1) (by omega) (by omega))
      · have y : ¬ pk B t (ncl B t c p s).2.1 = -1 := fun k => by rw [k] at y2; exact absurd y2 (by decide)
        have e : ntL B t (F + 1) c p s = ntL B t F (c + 1) (sk B t (ncl B t c p s).2.1 + 1) (ncl B t c p s).2.2 := by rw [ntL, if_neg (fun q => q z), if_neg y, if_pos y2]
        rw [e] at h
        have h40 := ncl_40 z
        have hlt := pk_m y
        rw [c1.1, nI_1]
        have g2 : frT I0 (am_u I1 186 14 (nI (sk B t (ncl B t c p s).2.1 + 1))) := frm.uf g1 (by simp)
        have hw2 := nsW_cl hB ht hp hw z
        have e17 : I1 186 17 = 6 := by rw [f1.2 17 (by decide)]; exact h17
        refine sp_netClause (f := f) (c := c + 1) (p := sk B t (ncl B t c p s).2.1 + 1) (s := (ncl B t c p s).2.2) (tpM_fr (S := []) (F := [14]) (frm.rf.uf (by simp)) (by decide) (by decide) hT1) (by omega) ⟨am_u_at, by rw [am_u_nk (by decide)]; exact c1.2⟩ (by rw [am_u_nk (by decide)]; exact e17) (by rw [am_u_nk (by decide), f1.2 20 (by decide)]; exact o3) (nsM_F (F := [14]) (frm.rf.uf (by simp)) (by decide) (nsM_F f1 (by decide) o2)) hw2 (by omega) (fun I3 g3 e3 o3 => ?_)
        refine sy_Model_readsAll_62 _ _ ?_
        refine ih (c + 1) _ I3 _ (by omega) (by omega) (by omega) (g3.T (tpM_fr (S := []) (F := [14]) (frm.rf.uf (by simp)) (by decide) (by decide) hT1)) (by rw [g3.2 17 (by decide), am_u_nk (by decide)]; exact e17) hw2 (g2.tr g3) h e3 o3
    · have e : ntL B t (F + 1) c p s = ((ncl B t c p s).1, s) := by rw [ntL, if_pos z]
      rw [e, bI_f z] at h
      refine sy_Model_readsAll_35 _ (fun _ _ => ?_) (fun _ k => ?_) (fun k => absurd (bI_f z) k)
      · exact h I g0 he (fun k => absurd k z)
      · rw [he] at k
        exact absurd ((nI_eq (b := 0) (by omega) (by decide)).mp k) z
end NPP
