/-! ===== the state; who is stuck ===== -/
def cS (f : Nat → Int32) (c : Nat) : Nat := (f (92 + 3 * c)).toNatClampNeg
def cD (f : Nat → Int32) (c : Nat) : Nat := (f (92 + 3 * c + 2)).toNatClampNeg
def lK (f : Nat → Int32) (l : Nat) : Nat := (f (104 + 4 * l)).toNatClampNeg
def lP (f : Nat → Int32) (l : Nat) : Nat := (f (104 + 4 * l + 1)).toNatClampNeg
def lG (f : Nat → Int32) (l : Nat) : Nat := (f (104 + 4 * l + 2)).toNatClampNeg
def lW (f : Nat → Int32) (l : Nat) : Nat := (f (104 + 4 * l + 3)).toNatClampNeg
/-- the State at s is f, with n roads, C carters, m loads -/
def stS (I : am_I) (s : Nat) (f : Nat → Int32) (n C m : Nat) : Prop := rdR I (s + 1) f n ∧ I s 9 = nI C ∧ I s 10 = nI m ∧ I s 11 = f 5 ∧ (∀ c, c < C → I (s + 7) c = f (92 + 3 * c) ∧ I (s + 8) c = f (92 + 3 * c + 1) ∧ I (s + 9) c = f (92 + 3 * c + 2)) ∧ (∀ l, l < m → I (s + 10) l = f (104 + 4 * l) ∧ I (s + 11) l = f (104 + 4 * l + 1) ∧ I (s + 12) l = f (104 + 4 * l + 2) ∧ I (s + 13) l = f (104 + 4 * l + 3)) ∧ (∀ r, r < n → I (s + 14) r = f (136 + r))
theorem stS_fr {I I' : am_I} {s n C m : Nat} {f : Nat → Int32} (h : ∀ a, s ≤ a → a ≤ s + 14 → I' a = I a) (hS : stS I s f n C m) : stS I' s f n C m := by
  obtain ⟨h1, h2, h3, h4, h5, h6, h7⟩ := hS
  refine ⟨rdR_fr (fun a g1 g2 => h a (by omega) (by omega)) h1, ?_, ?_, ?_, ?_, ?_, ?_⟩
  · rw [h s (by omega) (by omega)]; exact h2
  · rw [h s (by omega) (by omega)]; exact h3
  · rw [h s (by omega) (by omega)]; exact h4
  · rw [h (s + 7) (by omega) (by omega), h (s + 8) (by omega) (by omega), h (s + 9) (by omega) (by omega)]; exact h5
  · rw [h (s + 10) (by omega) (by omega), h (s + 11) (by omega) (by omega), h (s + 12) (by omega) (by omega), h (s + 13) (by omega) (by omega)]; exact h6
  · rw [h (s + 14) (by omega) (by omega)]; exact h7
def wfL (f : Nat → Int32) (P m : Nat) : Prop := ∀ l, l < m → f (104 + 4 * l) = nI (lK f l) ∧ 1 ≤ lK f l ∧ lK f l ≤ 7 ∧ (f (104 + 4 * l + 1) = -1 ∨ (f (104 + 4 * l + 1) = nI (lP f l) ∧ lP f l < 10)) ∧ f (104 + 4 * l + 2) = nI (lG f l) ∧ lG f l < P ∧ f (104 + 4 * l + 3) = nI (lW f l) ∧ lW f l ≤ 99
def wfS (Rs : List (List (Nat × List Nat))) (f : Nat → Int32) (P n C m : Nat) : Prop :=
  f 0 = nI P ∧ P ≤ 10 ∧ f 1 = nI n ∧ n ≤ 16 ∧ wfN f n ∧ f 2 = nI C ∧ C ≤ 4 ∧ f 3 = nI m ∧ m ≤ 8 ∧ foR Rs (f 6) ∧ ¬ f 5 < 0 ∧
  (∀ c, c < C → f (92 + 3 * c) = nI (cS f c) ∧ cS f c < 10 ∧ (f (92 + 3 * c + 1) = -1 ∨ ∃ l, l < m ∧ f (92 + 3 * c + 1) = nI l) ∧ f (92 + 3 * c + 2) = nI (cD f c) ∧ cD f c ≤ 9999) ∧
  wfL f P m ∧ (∀ r, r < n → f (136 + r) = -1 ∨ ¬ f (136 + r) < 0)
theorem wfS.P {Rs : List (List (Nat × List Nat))} {f : Nat → Int32} {P n C m : Nat} (h : wfS Rs f P n C m) : f 0 = nI P ∧ P ≤ 10 := ⟨h.1, h.2.1⟩
theorem wfS.n {Rs : List (List (Nat × List Nat))} {f : Nat → Int32} {P n C m : Nat} (h : wfS Rs f P n C m) : f 1 = nI n ∧ n ≤ 16 ∧ wfN f n := ⟨h.2.2.1, h.2.2.2.1, h.2.2.2.2.1⟩
theorem wfS.C {Rs : List (List (Nat × List Nat))} {f : Nat → Int32} {P n C m : Nat} (h : wfS Rs f P n C m) : f 2 = nI C ∧ C ≤ 4 := ⟨h.2.2.2.2.2.1, h.2.2.2.2.2.2.1⟩
theorem wfS.m {Rs : List (List (Nat × List Nat))} {f : Nat → Int32} {P n C m : Nat} (h : wfS Rs f P n C m) : f 3 = nI m ∧ m ≤ 8 := ⟨h.2.2.2.2.2.2.2.1, h.2.2.2.2.2.2.2.2.1⟩
theorem wfS.fo {Rs : List (List (Nat × List Nat))} {f : Nat → Int32} {P n C m : Nat} (h : wfS Rs f P n C m) : foR Rs (f 6) := h.2.2.2.2.2.2.2.2.2.1
theorem wfS.x {Rs : List (List (Nat × List Nat))} {f : Nat → Int32} {P n C m : Nat} (h : wfS Rs f P n C m) : ¬ f 5 < 0 := h.2.2.2.2.2.2.2.2.2.2.1
theorem wfS.c {Rs : List (List (Nat × List Nat))} {f : Nat → Int32} {P n C m : Nat} (h : wfS Rs f P n C m) : ∀ c, c < C → f (92 + 3 * c) = nI (cS f c) ∧ cS f c < 10 ∧ (f (92 + 3 * c + 1) = -1 ∨ ∃ l, l < m ∧ f (92 + 3 * c + 1) = nI l) ∧ f (92 + 3 * c + 2) = nI (cD f c) ∧ cD f c ≤ 9999 := h.2.2.2.2.2.2.2.2.2.2.2.1
theorem wfS.l {Rs : List (List (Nat × List Nat))} {f : Nat → Int32} {P n C m : Nat} (h : wfS Rs f P n C m) : wfL f P m := h.2.2.2.2.2.2.2.2.2.2.2.2.1
theorem wfS.s {Rs : List (List (Nat × List Nat))} {f : Nat → Int32} {P n C m : Nat} (h : wfS Rs f P n C m) : ∀ r, r < n → f (136 + r) = -1 ∨ ¬ f (136 + r) < 0 := h.2.2.2.2.2.2.2.2.2.2.2.2.2
/-- a load waits -/
abbrev pWa (f : Nat → Int32) (l : Nat) : Prop := ¬ f (104 + 4 * l + 1) = -1 ∧ ¬ f (104 + 4 * l + 1) = f (104 + 4 * l + 2)
def pStk (Rs : List (List (Nat × List Nat))) (f : Nat → Int32) (n l : Nat) : Bool := decide (pWa f l ∧ ¬ pD Rs f n (f (104 + 4 * l)) (lG f l) (lP f l) < 1000000)
def pStB (Rs : List (List (Nat × List Nat))) (f : Nat → Int32) (n : Nat) : Nat → Int32
  | 0 => 0
  | l + 1 => if pStk Rs f n l = true then pStB Rs f n l ||| (1 <<< (nI l &&& 31)) else pStB Rs f n l
section STK
variable {d Lx : Nat} {ρ : List (Nat × Nat)} {Q : am_Q} {Rs : List (List (Nat × List Nat))}
theorem hLo_n {I : am_I} {s n C m l : Nat} {f : Nat → Int32} (hS : stS I s f n C m) (hl : l < m) (hm : m ≤ 8) : hLo I s (nI l) := ⟨nI_pos (by omega), by rw [hS.2.2.1]; exact nI_lt hl (by omega), nI_lt (b := 8) (by omega) (by decide)⟩
theorem hWa_n {I : am_I} {s n C m l : Nat} {f : Nat → Int32} (hS : stS I s f n C m) (hl : l < m) (hm : m ≤ 8) : hWa I s (nI l) ↔ pWa f l := by
  obtain ⟨q1, q2, q3, q4⟩ := hS.2.2.2.2.2.1 l hl
  unfold hWa pWa
  rw [nI_clamp (by omega), q2, q3]
  exact ⟨fun z => z.2, fun z => ⟨hLo_n hS hl hm, z⟩⟩
theorem lp_stk {I : am_I} {L : am_L} {s r n C m P n' : Nat} {f f' : Nat → Int32} (hs : s ∈ stl) (hr : r ∈ rdl) (hS : stS I s f n C m) (hm : m ≤ 8) (hL' : wfL f' P m) (hR : rdR I r f' n') (hwf : wfN f' n') (hP : f' 0 = nI P) (hP10 : P ≤ 10) (hff : ∀ i, 104 ≤ i → f' i = f i) (hw : wfRs Rs) (hC : RCc I ρ Rs)
    (h : ∀ I' L', frc [26, 27, 28, 29] I I' → (∀ a, a ≠ 23 → a ≠ 24 → L' a = L a) → Q (some (.int (pStB Rs f' n' m))) I' L' (gg Lx ρ)) : ∀ k l I' L', l + k = m → frc [26, 27, 28, 29] I I' → (∀ a, a ≠ 23 → a ≠ 24 → L' a = L a) → am_W am_all (am_run (d + 4)) e_Finder_stuckIn Q 5 [.ref 25, .ref s, .ref r, .int (pStB Rs f' n' l), .int (nI l)] [] I' L' (gg Lx ρ) 0 0
  | 0, l, I', L', e, hf, hL => by
    have e : l = m := e
    subst e
    have hsl := stl_lt s hs
    have hno : ¬ nI l < I' s 10 := by rw [hf s (by simp; omega), hS.2.2.1]; exact nI_nlt (Nat.le_refl _) (by omega)
    exact sy_Finder_stuckIn_5 (d := d + 2) s r _ _ hs hr (fun _ => h I' L' hf hL) (fun z => absurd z hno) (fun z => absurd z hno) (fun z => absurd z hno)
  | k + 1, l, I', L', e, hf, hL => by
    have hsl := stl_lt s hs
    have hrl := rdl_lt r hr
    have hl : l < m := by omega
    have hS' : stS I' s f n C m := stS_fr (fun a h1 h2 => hf a (by simp; omega)) hS
    have hR' : rdR I' r f' n' := rdR_fr (fun a h1 h2 => hf a (by simp; omega)) hR
    have hC' : RCc I' ρ Rs := RCc_fr (hf 21 (by simp)) (fun a ha => hf a (by simp; omega)) hC
    have v8 : vp_in (nI l) 8 := vp_in_nI (by omega) (by decide)
    obtain ⟨g1, g2, g3, g4, g5, g6, g7, g8⟩ := hL' l hl
    have hpw : pWa f' l ↔ pWa f l := by unfold pWa; rw [hff _ (by omega), hff _ (by omega)]
    refine sy_Finder_stuckIn_5 (d := d + 2) s r _ _ hs hr (fun z => absurd (by rw [hS'.2.2.1]; exact nI_lt hl (by omega)) z) (fun _ _ => v8) (fun _ z => ?_) (fun _ z => ?_)
    · have hpa : pWa f' l := hpw.mpr ((hWa_n hS' hl hm).mp z)
      obtain ⟨q1, q2, q3, q4⟩ := hS'.2.2.2.2.2.1 l hl
      rw [nI_clamp (by omega), q1, ← hff _ (by omega)]
      refine sp_Finder_look hr hR' hwf hw hC' (fun I1 L1 f1 l1 v1 => ?_)
      have hS1 : stS I1 s f n C m := stS_fr (fun a h1 h2 => f1 a (by simp; omega)) hS'
      obtain ⟨q1, q2, q3, q4⟩ := hS1.2.2.2.2.2.1 l hl
      refine sy_Finder_stuckIn_38 (d := d + 2) s r _ _ hs hr v8 ?_
      rw [nI_clamp (by omega), q3, ← hff _ (by omega), g5]
      have hlk1 := lkd_look hwf v1
      refine sp_Finder_measure hr (rdR_fr (fun a h1 h2 => f1 a (by simp; omega)) hR') hwf hlk1 hP hP10 g6 (fun I2 f2 v2 => ?_)
      have hS2 : stS I2 s f n C m := stS_fr (fun a h1 h2 => f2 a (by simp; omega)) hS1
      obtain ⟨q1, q2, q3, q4⟩ := hS2.2.2.2.2.2.1 l hl
      have f12 : frc [26, 27, 28, 29] I I2 := hf.tr ((f1.w (by simp)).tr (f2.w (by simp)))
      have l12 : ∀ a, a ≠ 23 → a ≠ 24 → L1 a = L a := fun a h1 h2 => (l1 a h1 h2).trans (hL a h1 h2)
      have hlp : f' (104 + 4 * l + 1) = nI (lP f' l) ∧ lP f' l < 10 := g4.resolve_left hpa.1
      have ecost : cCost I2 (I2 (s + 11) (nI l).toNatClampNeg) = if pD Rs f' n' (f' (104 + 4 * l)) (lG f' l) (lP f' l) < 1000000 then nI (pD Rs f' n' (f' (104 + 4 * l)) (lG f' l) (lP f' l)) else -2 := by
        rw [nI_clamp (by omega), q2, ← hff _ (by omega), hlp.1]
        exact cCost_n v2 hlp.2 (dst_B _)
      refine sy_Finder_stuckIn_50 (d := d + 2) s r _ _ hs hr v8 (fun y => ?_) (fun y => ?_)
      · rw [ecost] at y
        have hlt : pD Rs f' n' (f' (104 + 4 * l)) (lG f' l) (lP f' l) < 1000000 := Classical.byContradiction fun q => by rw [if_neg q] at y; exact y rfl
        rw [nI_1]
        have := lp_stk hs hr hS hm hL' hR hwf hP hP10 hff hw hC h k (l + 1) I2 L1 (by omega) f12 l12
        unfold pStB at this
        rw [if_neg (show ¬ pStk Rs f' n' l = true from fun q => (of_decide_eq_true q).2 hlt)] at this
        exact this
      · rw [ecost] at y
        have hge : ¬ pD Rs f' n' (f' (104 + 4 * l)) (lG f' l) (lP f' l) < 1000000 := fun q => by
          rw [if_pos q] at y
          exact absurd (show nI _ < 0 by rw [y]; decide) (nI_pos (show pD Rs f' n' (f' (104 + 4 * l)) (lG f' l) (lP f' l) < 2 ^ 31 by omega))
        rw [nI_1]
        have := lp_stk hs hr hS hm hL' hR hwf hP hP10 hff hw hC h k (l + 1) I2 L1 (by omega) f12 l12
        unfold pStB at this
        rw [if_pos (show pStk Rs f' n' l = true from decide_eq_true ⟨hpa, hge⟩)] at this
        exact this
    · rw [nI_1]
      have := lp_stk hs hr hS hm hL' hR hwf hP hP10 hff hw hC h k (l + 1) I' L' (by omega) hf hL
      unfold pStB at this
      rw [if_neg (show ¬ pStk Rs f' n' l = true from fun q => z ((hWa_n hS' hl hm).mpr (hpw.mp (of_decide_eq_true q).1)))] at this
      exact this
theorem sp_Finder_stuckIn {I : am_I} {L : am_L} {s r n C m P n' : Nat} {f f' : Nat → Int32} (hs : s ∈ stl) (hr : r ∈ rdl) (hS : stS I s f n C m) (hm : m ≤ 8) (hL' : wfL f' P m) (hR : rdR I r f' n') (hwf : wfN f' n') (hP : f' 0 = nI P) (hP10 : P ≤ 10) (hff : ∀ i, 104 ≤ i → f' i = f i) (hw : wfRs Rs) (hC : RCc I ρ Rs)
    (h : ∀ I' L', frc [26, 27, 28, 29] I I' → (∀ a, a ≠ 23 → a ≠ 24 → L' a = L a) → Q (some (.int (pStB Rs f' n' m))) I' L' (gg Lx ρ)) : am_run (d + 5) m_Finder_stuckIn [.ref 25, .ref s, .ref r] I L (gg Lx ρ) Q :=
  run_in rfl rfl ⟨rfl, rfl⟩ (sy_Finder_stuckIn_0 (d := d + 2) s r hs hr (lp_stk hs hr hS hm hL' hR hwf hP hP10 hff hw hC h m 0 I L (by omega) frc.rf (fun _ _ _ => rfl)))
theorem oL_n {j c : Nat} (h : 104 + 4 * j + c < 152) : oL (nI j) (nI c) := by
  unfold oL
  rw [show (104 : Int32) = nI 104 from rfl, show (4 : Int32) = nI 4 from rfl, pk_mul, nI_add, nI_add]
  exact vp_in_nI h (by decide)
theorem mL_n {I : am_I} {j c : Nat} (h : 104 + 4 * j + c < 152) : mL I (nI j) (nI c) = I 198 (104 + 4 * j + c) := by
  unfold mL
  rw [show (104 : Int32) = nI 104 from rfl, show (4 : Int32) = nI 4 from rfl, pk_mul, nI_add, nI_add, nI_clamp (by omega)]
theorem mWa_n {I : am_I} {l P m : Nat} (hl : l < m) (hm : m ≤ 8) (hL : wfL (I 198) P m) : mWa I (nI l) ↔ pWa (I 198) l := by
  obtain ⟨g1, g2, g3, g4, g5, g6, g7, g8⟩ := hL l hl
  have e1 : mL I (nI l) 1 = I 198 (104 + 4 * l + 1) := mL_n (c := 1) (by omega)
  have e2 : mL I (nI l) 2 = I 198 (104 + 4 * l + 2) := mL_n (c := 2) (by omega)
  unfold mWa mEnd pWa
  rw [e1, e2]
  refine and_congr_left fun _ => ?_
  rcases g4 with g4 | ⟨g4, g9⟩
  · rw [g4]; exact ⟨fun z => absurd (by decide) z, fun z => absurd rfl z⟩
  · rw [g4]; exact ⟨fun _ => nI_nm1 (by omega), fun _ => nI_pos (by omega)⟩
theorem or0 (x : Int32) : x ||| 0 = x := by
  apply Int32.toBitVec_inj.mp
  rw [Int32.toBitVec_or]
  exact BitVec.or_zero
theorem lp_mstk {I : am_I} {L : am_L} {m P n : Nat} (hn : I 186 29 = nI n) (hm1 : I 198 3 = nI m) (hm : m ≤ 8) (hL' : wfL (I 198) P m) (hwf : wfN (I 198) n) (hP10 : P ≤ 10) (hfo : foR Rs (I 198 6)) (hw : wfRs Rs) (hM : RCm I Rs)
    (h : ∀ I' L', frm [199, 200] [24] I I' → (∀ a, a ≠ 196 → a ≠ 197 → L' a = L a) → Q (some (.int (pStB Rs (I 198) n m))) I' L' (gg Lx ρ)) : ∀ k l I' L', l + k = m → frm [199, 200] [24] I I' → (∀ a, a ≠ 196 → a ≠ 197 → L' a = L a) → am_W am_all (am_run (d + 6)) e_Model_stuckOnes Q 4 [.ref 186, .int (pStB Rs (I 198) n l), .int (nI l)] [] I' L' (gg Lx ρ) 0 0
  | 0, l, I', L', e, hf, hL => by
    have e : l = m := e
    subst e
    have hno : ¬ nI l < I' 198 3 := by rw [hf.1 198 (by decide) (by simp), hm1]; exact nI_nlt (Nat.le_refl _) (by omega)
    exact sy_Model_stuckOnes_4 (d := d + 3) _ _ (fun _ => h I' L' hf hL) (fun z => absurd z hno) (fun z => absurd z hno) (fun z => absurd z hno) (fun z => absurd z hno) (fun z => absurd z hno)
  | k + 1, l, I', L', e, hf, hL => by
    have hl : l < m := by omega
    have e198 : I' 198 = I 198 := hf.1 198 (by decide) (by simp)
    obtain ⟨g1, g2, g3, g4, g5, g6, g7, g8⟩ := hL' l hl
    have hmw : mWa I' (nI l) ↔ pWa (I 198) l := by rw [← e198]; exact mWa_n hl hm (by rw [e198]; exact hL')
    refine sy_Model_stuckOnes_4 (d := d + 3) _ _ (fun z => absurd (by rw [e198, hm1]; exact nI_lt hl (by omega)) z) (fun _ => oL_n (c := 1) (by omega)) (fun _ => oL_n (c := 2) (by omega)) (fun _ _ => oL_n (c := 0) (by omega)) (fun _ z => ?_) (fun _ z => ?_)
    · have hpa := hmw.mp z
      rw [show mL I' (nI l) 0 = I' 198 (104 + 4 * l) from mL_n (c := 0) (by omega), e198]
      refine sp_Model_marks (d := d) (Rs := Rs) ((hf.2 29 (by simp)).trans hn) (by rw [e198]; exact hwf) g1 g3 (by rw [e198]; exact hfo) hw (hf.M (by simp) (by simp) hM) (fun I1 L1 f1 l1 m1 => ?_)
      rw [e198] at m1
      have f01 : frm [199, 200] [24] I I1 := hf.tr (f1.w (by simp) (by simp))
      have e198' : I1 198 = I 198 := f01.1 198 (by decide) (by simp)
      refine sy_Model_stuckOnes_35 (d := d + 3) _ _ (oL_n (c := 2) (by omega)) ?_
      rw [show mL I1 (nI l) 2 = I1 198 (104 + 4 * l + 2) from mL_n (c := 2) (by omega), e198', g5]
      refine sp_Model_spreads ((f01.2 29 (by simp)).trans hn) e198' hwf m1 (by omega) (fun I2 f2 v2 => ?_)
      have f02 : frm [199, 200] [24] I I2 := f01.tr (f2.w (by simp) (by simp))
      have e2 : I2 198 = I 198 := f02.1 198 (by decide) (by simp)
      have hlp : I 198 (104 + 4 * l + 1) = nI (lP (I 198) l) ∧ lP (I 198) l < 10 := g4.resolve_left hpa.1
      have er : mL I2 (nI l) 1 = nI (lP (I 198) l) := by rw [show mL I2 (nI l) 1 = I2 198 (104 + 4 * l + 1) from mL_n (c := 1) (by omega), e2]; exact hlp.1
      have ev : I2 200 (mL I2 (nI l) 1).toNatClampNeg = nI (pD Rs (I 198) n (I 198 (104 + 4 * l)) (lG (I 198) l) (lP (I 198) l)) := by rw [er, nI_clamp (by omega)]; exact v2 _ hlp.2
      have hb := dst_B (a := rA (I 198)) (b := rB (I 198)) (c := rD (I 198)) (u := uO Rs (I 198) (I 198 (104 + 4 * l))) (v := vO Rs (I 198) (I 198 (104 + 4 * l))) (n := n) (t := lG (I 198) l) (lP (I 198) l)
      have l12 : ∀ a, a ≠ 196 → a ≠ 197 → L1 a = L a := fun a h1 h2 => (l1 a h1 h2).trans (hL a h1 h2)
      refine sy_Model_stuckOnes_45 (d := d + 3) _ _ (oL_n (c := 1) (by omega)) (by rw [er]; exact vp_in_nI hlp.2 (by decide)) (fun y => ?_) (fun y => ?_)
      · rw [ev] at y
        have hlt : pD Rs (I 198) n (I 198 (104 + 4 * l)) (lG (I 198) l) (lP (I 198) l) < 1000000 := Classical.byContradiction fun q => y ((nI_B hb).mpr q)
        rw [nI_1, or0]
        have := lp_mstk hn hm1 hm hL' hwf hP10 hfo hw hM h k (l + 1) I2 L1 (by omega) f02 l12
        unfold pStB at this
        rw [if_neg (show ¬ pStk Rs (I 198) n l = true from fun q => (of_decide_eq_true q).2 hlt)] at this
        exact this
      · rw [ev] at y
        rw [nI_1]
        have := lp_mstk hn hm1 hm hL' hwf hP10 hfo hw hM h k (l + 1) I2 L1 (by omega) f02 l12
        unfold pStB at this
        rw [if_pos (show pStk Rs (I 198) n l = true from decide_eq_true ⟨hpa, (nI_B hb).mp y⟩)] at this
        exact this
    · rw [nI_1]
      have := lp_mstk hn hm1 hm hL' hwf hP10 hfo hw hM h k (l + 1) I' L' (by omega) hf hL
      unfold pStB at this
      rw [if_neg (show ¬ pStk Rs (I 198) n l = true from fun q => z (hmw.mpr (of_decide_eq_true q).1))] at this
      exact this
theorem sp_Model_stuckOnes {I : am_I} {L : am_L} {m P n : Nat} (hn : I 186 29 = nI n) (hm1 : I 198 3 = nI m) (hm : m ≤ 8) (hL' : wfL (I 198) P m) (hwf : wfN (I 198) n) (hP10 : P ≤ 10) (hfo : foR Rs (I 198 6)) (hw : wfRs Rs) (hM : RCm I Rs)
    (h : ∀ I' L', frm [199, 200] [24] I I' → (∀ a, a ≠ 196 → a ≠ 197 → L' a = L a) → Q (some (.int (pStB Rs (I 198) n m))) I' L' (gg Lx ρ)) : am_run (d + 7) m_Model_stuckOnes [.ref 186] I L (gg Lx ρ) Q :=
  run_in rfl rfl ⟨rfl, rfl⟩ (sy_Model_stuckOnes_0 (d := d + 3) (lp_mstk hn hm1 hm hL' hwf hP10 hfo hw hM h m 0 I L (by omega) frm.rf (fun _ _ _ => rfl)))
end STK
