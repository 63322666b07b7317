/-! ===== the new road that helps most ===== -/
/-- a question to the class changes only its own rows -/
def frA (I I' : am_I) : Prop := ∀ a, ¬ (25 ≤ a ∧ a ≤ 93) → I' a = I a
/-- a question to the reference -/
def frB (n : Nat) (I I' : am_I) : Prop := (∀ a, a ≠ 186 → ¬ (198 ≤ a ∧ a ≤ 210) → I' a = I a) ∧ (∀ k, k = 1 ∨ k = 2 → I' 186 k = I 186 k) ∧ ∀ i, i < 7 + 5 * n ∨ 92 ≤ i → I' 198 i = I 198 i
theorem frc.A {S : List Nat} {I I' : am_I} (h : frc S I I') (hS : ∀ a ∈ S, 25 ≤ a ∧ a ≤ 93) : frA I I' := fun a z => h a fun y => z (hS a y)
theorem frA.rf {I : am_I} : frA I I := fun _ _ => rfl
theorem frA.tr {I I' I2 : am_I} (h : frA I I') (g : frA I' I2) : frA I I2 := fun a z => (g a z).trans (h a z)
theorem frm.B {n : Nat} {S F : List Nat} {I I' : am_I} (h : frm S F I I') (hS : ∀ a ∈ S, 199 ≤ a ∧ a ≤ 210) (hF : 1 ∉ F ∧ 2 ∉ F) : frB n I I' :=
  ⟨fun a z y => h.1 a z fun q => y (by have := hS a q; omega), fun k hk => h.2 k (by rcases hk with e | e <;> subst e; exact hF.1; exact hF.2), fun i _ => by rw [h.1 198 (by decide) fun q => by have := hS 198 q; omega]⟩
theorem frB.rf {n : Nat} {I : am_I} : frB n I I := ⟨fun _ _ _ => rfl, fun _ _ => rfl, fun _ _ => rfl⟩
section NRD
variable {d Lx : Nat} {ρ : List (Nat × Nat)} {Q : am_Q} {Rs : List (List (Nat × List Nat))}
def cells25 : List Nat := [25, 26, 27, 28, 29, 30, 31, 32, 33, 34, 35]
theorem cells25_A : ∀ a ∈ cells25, 25 ≤ a ∧ a ≤ 35 := by decide
theorem wfL_nr {f : Nat → Int32} {P m n : Nat} {a b c v : Int32} (hn : n ≤ 16) (h : wfL f P m) : wfL (nr f n a b c v) P m := by
  intro l hl
  have w := h l hl
  unfold lK lP lG lW at w ⊢
  rw [nr_o (i := 104 + 4 * l) (by omega), nr_o (i := 104 + 4 * l + 1) (by omega), nr_o (i := 104 + 4 * l + 2) (by omega), nr_o (i := 104 + 4 * l + 3) (by omega)]
  exact w
def st25 (I : am_I) (st : Int32 × Int32 × Nat) : Prop := I 25 6 = st.1 ∧ I 25 7 = st.2.1 ∧ I 25 8 = nI st.2.2 ∧ st.2.2 ≤ 9
theorem lp_nrI {I : am_I} {f : Nat → Int32} {P n C m dd a : Nat} (hS : stS I 94 f n C m) (hwS : wfS Rs f P n C m) (hw : wfRs Rs) (hC : RCc I ρ Rs) (h1 : 1 ≤ dd) (h9 : dd ≤ 9) {K : Int32 × Int32 × Nat → Prop}
    (h : ∀ I' L' (x4 : Int32) (x5 : Value) st, frc cells25 I I' → st25 I' st → K st → am_W am_all (am_run (d + 6)) e_Finder_findNewRoad Q 18 [.ref 25, .ref 94, .int (nI dd), .int (nI (a + 1)), .int x4, x5] [] I' L' (gg Lx ρ) 0 0) : ∀ k b I' L' (x5 : Value) st, b + k = P → a < b → frc cells25 I I' → st25 I' st → K (btI (pNS Rs f n m dd) a k b st) → am_W am_all (am_run (d + 6)) e_Finder_findNewRoad Q 34 [.ref 25, .ref 94, .int (nI dd), .int (nI a), .int (nI b), x5] [] I' L' (gg Lx ρ) 0 0
  | 0, b, I', L', x5, st, e, hab, hf, hst, hK => by
    have e : b = P := e
    subst e
    have hP := hwS.P
    have hno : ¬ nI b < I' 95 5 := by rw [hf 95 (by decide), hS.1.1, hP.1]; exact nI_nlt (Nat.le_refl _) (by omega)
    refine sz_Finder_findNewRoad_34 94 _ _ _ _ (by decide) (fun _ => ?_) (fun z => absurd z hno)
    rw [nI_1]
    exact h I' L' _ _ st hf hst hK
  | k + 1, b, I', L', x5, st, e, hab, hf, hst, hK => by
    have hP := hwS.P
    have hm := hwS.m
    obtain ⟨hn1, hn16, hwf⟩ := hwS.n
    have hS' : stS I' 94 f n C m := stS_fr (fun q g1 g2 => hf q (fun z => by have := cells25_A q z; omega)) hS
    refine sz_Finder_findNewRoad_34 94 _ _ _ _ (by decide) (fun z => absurd (by rw [hS'.1.1, hP.1]; exact nI_lt (by omega) (by omega)) z) (fun _ => ?_)
    refine sp_Roads_copy (d := d + 4) (r := 30) (s := 95) (by decide) (by decide) (by decide) hS'.1 (by omega) (fun I1 f1 hR1 => ?_)
    refine sz_Finder_findNewRoad_57 94 _ _ _ _ (by decide) (sp_Roads_add (d := d + 4) (r := 30) (by decide) hR1 (by omega) (fun I2 f2 hR2 => ?_))
    have e30 : I1 30 5 = nI P := hR1.1.trans hP.1
    have hR2 := hR2 ⟨hPl_in hP.2 e30 (by omega), hPl_in hP.2 e30 (by omega)⟩
    have hf2 : frc cells25 I I2 := hf.tr ((f1.w (by decide)).tr (f2.w (by decide)))
    have hS2 : stS I2 94 f n C m := stS_fr (fun q g1 g2 => hf2 q (fun z => by have := cells25_A q z; omega)) hS
    have hC2 : RCc I2 ρ Rs := RCc_fr (hf2 21 (by decide)) (fun q hq => hf2 q (fun z => by have := cells25_A q z; omega)) hC
    refine sz_Finder_findNewRoad_69 94 _ _ _ _ (by decide) (sp_Finder_stuckIn (d := d + 1) (Rs := Rs) (P := P) (by decide) (by decide) hS2 hm.2 (wfL_nr hn16 hwS.l) hR2 (wfN_nr (v := 0) hwf (by omega) (show a < 10 by omega) (show b < 10 by omega) (by omega) h1 h9 (by omega)) (by rw [nr_o (by omega)]; exact hP.1) hP.2 (fun i hi => nr_o (by omega)) hw hC2 (fun I3 L3 f3 l3 => ?_))
    obtain ⟨x, hx, ex⟩ := pStB_8 Rs (nr f n (nI a) (nI b) (nI dd) 0) (n + 1) hm.2
    refine sz_Finder_findNewRoad_78 94 _ _ _ _ _ (by decide) ?_
    rw [ex]
    refine sp_bitCount (d := d + 5) hx ?_
    have epn : pNS Rs f n m dd a b = pop8 x := by unfold pNS; rw [ex, nI_clamp (by omega)]
    have hf3 : frc cells25 I I3 := hf2.tr (f3.w (by decide))
    have e25 : I3 25 = I' 25 := by rw [f3 25 (by decide), f2 25 (by decide), f1 25 (by decide)]
    obtain ⟨s1, s2, s3, s4⟩ := hst
    have hp8 := pop8_le x
    unfold btI at hK
    refine sz_Finder_findNewRoad_81 94 _ _ _ _ _ (by decide) (fun z => ?_) (fun z => ?_)
    · rw [e25, s3] at z
      rw [if_neg (fun y => z (nI_lt (by rw [← epn]; exact y) (by omega)))] at hK
      rw [nI_1]
      exact lp_nrI hS hwS hw hC h1 h9 h k (b + 1) I3 L3 _ st (by omega) (by omega) hf3 ⟨by rw [e25]; exact s1, by rw [e25]; exact s2, by rw [e25]; exact s3, s4⟩ hK
    · rw [e25, s3] at z
      have hlt : pNS Rs f n m dd a b < st.2.2 := by rw [epn]; exact (nI_ltI (by omega) (by omega)).mp z
      rw [if_pos hlt] at hK
      rw [nI_1]
      refine lp_nrI hS hwS hw hC h1 h9 h k (b + 1) _ L3 _ (nI a, nI b, pNS Rs f n m dd a b) (by omega) (by omega) (((hf3.u (by decide)).u (by decide)).u (by decide)) ⟨?_, ?_, ?_, ?_⟩ hK
      · rw [am_u_nk (by decide), am_u_nk (by decide), am_u_at]
      · rw [am_u_nk (by decide), am_u_at]
      · rw [am_u_at]; show nI (pop8 x) = nI (pNS Rs f n m dd a b); rw [epn]
      · show pNS Rs f n m dd a b ≤ 9; omega
theorem lp_nrO {I : am_I} {f : Nat → Int32} {P n C m dd : Nat} (hS : stS I 94 f n C m) (hwS : wfS Rs f P n C m) (hw : wfRs Rs) (hC : RCc I ρ Rs) (h1 : 1 ≤ dd) (h9 : dd ≤ 9) {K : Int32 × Int32 × Nat → Prop}
    (h : ∀ I' L' st, frc cells25 I I' → st25 I' st → K st → Q none I' L' (gg Lx ρ)) : ∀ k a I' L' (x4 x5 : Value) st, a + k = P → frc cells25 I I' → st25 I' st → K (btO (pNS Rs f n m dd) P k a st) → am_W am_all (am_run (d + 6)) e_Finder_findNewRoad Q 18 [.ref 25, .ref 94, .int (nI dd), .int (nI a), x4, x5] [] I' L' (gg Lx ρ) 0 0
  | 0, a, I', L', x4, x5, st, e, hf, hst, hK => by
    have e : a = P := e
    subst e
    have hP := hwS.P
    have hno : ¬ nI a < I' 95 5 := by rw [hf 95 (by decide), hS.1.1, hP.1]; exact nI_nlt (Nat.le_refl _) (by omega)
    exact sz_Finder_findNewRoad_18 94 _ _ _ _ (by decide) (fun _ => h I' L' st hf hst hK) (fun z => absurd z hno)
  | k + 1, a, I', L', x4, x5, st, e, hf, hst, hK => by
    have hP := hwS.P
    refine sz_Finder_findNewRoad_18 94 _ _ _ _ (by decide) (fun z => absurd (by rw [hf 95 (by decide), hS.1.1, hP.1]; exact nI_lt (by omega) (by omega)) z) (fun _ => ?_)
    rw [nI_1]
    unfold btO at hK
    exact lp_nrI (d := d) hS hwS hw hC h1 h9 (K := fun s => K (btO (pNS Rs f n m dd) P k (a + 1) s)) (fun I2 L2 y4 y5 s2 f2 t2 k2 => lp_nrO hS hwS hw hC h1 h9 h k (a + 1) I2 L2 _ _ s2 (by omega) f2 t2 k2) (P - (a + 1)) (a + 1) I' L' _ st (by omega) (by omega) hf hst hK
def pBt (Rs : List (List (Nat × List Nat))) (f : Nat → Int32) (P n m : Nat) (dy w : Int32) : Int32 :=
  if ¬ dy < 1 ∧ ¬ 9 < dy ∧ ¬ w < 0 ∧ ¬ 2 < w ∧ 2 ≤ P then (if w = 0 then (btO (pNS Rs f n m dy.toNatClampNeg) P P 0 (-1, -1, 9)).1 else if w = 1 then (btO (pNS Rs f n m dy.toNatClampNeg) P P 0 (-1, -1, 9)).2.1 else nI (btO (pNS Rs f n m dy.toNatClampNeg) P P 0 (-1, -1, 9)).2.2) else -1
theorem nI_btw {x lo hi : Int32} {a b : Nat} (ha : lo = nI a) (hb : hi = nI b) (ha2 : a < 2 ^ 31) (hb2 : b < 2 ^ 31) (h1 : ¬ x < lo) (h2 : ¬ hi < x) : ∃ k, a ≤ k ∧ k ≤ b ∧ x = nI k := by
  subst ha hb
  have h0 : ¬ x < 0 := fun z => h1 (Int32.lt_of_lt_of_le z (nI_pos' ha2))
  obtain ⟨k, hk, rfl⟩ := nI_of h0
  refine ⟨k, ?_, ?_, rfl⟩
  · exact Nat.le_of_not_lt fun z => h1 (nI_lt z ha2)
  · exact Nat.le_of_not_lt fun z => h2 (nI_lt z hk)
theorem mIn_i {x : Int32} {a b : Int32} : mIn (Int32.toInt64 x) (Int32.toInt64 a) (Int32.toInt64 b) ↔ (¬ x < a ∧ ¬ b < x) := by
  unfold mIn
  rw [Int64.lt_iff_toInt_lt, Int64.lt_iff_toInt_lt, Int32.toInt_toInt64, Int32.toInt_toInt64, Int32.toInt_toInt64, Int32.lt_iff_toInt_lt, Int32.lt_iff_toInt_lt]
theorem sp_LL_better {I : am_I} {L : am_L} {f : Nat → Int32} {P n C m : Nat} {dy w : Int32} (hS : stS I 94 f n C m) (hwS : wfS Rs f P n C m) (hw : wfRs Rs) (hC : RCc I ρ Rs)
    (h : ∀ I' L', frA I I' → Q (some (.int (pBt Rs f P n m dy w))) I' L' (gg Lx ρ)) : am_run (d + 8) m_LL_better [.ref 12, .int dy, .int w] I L (gg Lx ρ) Q := by
  have hP := hwS.P
  have e5 : I 95 5 = nI P := hS.1.1.trans hP.1
  unfold pBt at h
  refine run_in rfl rfl ⟨rfl, rfl⟩ (sy_LL_better_0 _ _ (fun z => ?_) (fun _ z => ?_) (fun _ _ z => ?_) (fun _ _ _ z => ?_) (fun z1 z2 z3 z4 z5 => ?_) (fun _ _ _ _ z => ?_))
  · rw [if_neg (fun y => y.1 z)] at h; exact h I L frA.rf
  · rw [if_neg (fun y => y.2.1 z)] at h; exact h I L frA.rf
  · rw [if_neg (fun y => y.2.2.1 z)] at h; exact h I L frA.rf
  · rw [if_neg (fun y => y.2.2.2.1 z)] at h; exact h I L frA.rf
  · rw [e5] at z5
    have hP2 : 2 ≤ P := Nat.le_of_not_lt fun y => z5 (nI_lt (b := 2) y (by decide))
    rw [if_pos ⟨z1, z2, z3, z4, hP2⟩] at h
    obtain ⟨dd, d1, d9, rfl⟩ := nI_btw (a := 1) (b := 9) rfl rfl (by decide) (by decide) z1 z2
    rw [nI_clamp (by omega)] at h
    refine run_in rfl rfl ⟨rfl, rfl⟩ (sz_Finder_findNewRoad_0 94 _ (by decide) (lp_nrO (I := I) (f := f) (P := P) (n := n) (C := C) (m := m) (dd := dd) (K := fun s => s = btO (pNS Rs f n m dd) P P 0 (-1, -1, 9)) hS hwS hw hC d1 d9 (fun I' L' st f1 t1 k1 => ?_) P 0 _ L _ _ (-1, -1, 9) (by omega) (((frc.rf.u (by decide)).u (by decide)).u (by decide)) ⟨?_, ?_, ?_, by decide⟩ rfl))
    · subst k1
      have hA : frA I I' := f1.A (fun a ha => by have := cells25_A a ha; omega)
      obtain ⟨t1, t2, t3, _⟩ := t1
      obtain ⟨ww, w0, w2, rfl⟩ := nI_btw (a := 0) (b := 2) rfl rfl (by decide) (by decide) z3 z4
      refine sy_LL_better_48 _ _ (fun y => ?_) (fun y => ?_) (fun y => ?_)
      · rw [nI_toInt (by omega)] at y
        have : ww = 0 := by omega
        subst this
        rw [if_pos (show nI 0 = 0 from rfl)] at h; rw [t1]; exact h I' L' hA
      · rw [nI_toInt (by omega)] at y
        have : ww = 1 := by omega
        subst this
        rw [if_neg (by decide), if_pos (show nI 1 = 1 from rfl)] at h; rw [t2]; exact h I' L' hA
      · have y0 := y (0, 27) (by simp)
        have y1 := y (1, 35) (by simp)
        rw [nI_toInt (by omega)] at y0 y1
        have : ww = 2 := by omega
        subst this
        rw [if_neg (by decide), if_neg (by decide)] at h; rw [t3]; exact h I' L' hA
    · rw [am_u_nk (by decide), am_u_nk (by decide), am_u_at]
    · rw [am_u_nk (by decide), am_u_at]
    · rw [am_u_at]; rfl
  · rw [e5] at z
    rw [if_neg (fun y => absurd z (nI_nlt (b := 2) y.2.2.2.2 (by omega)))] at h; exact h I L frA.rf
/-- the reference's said with a road more -/
theorem mnr {I : am_I} {n : Nat} {a b c v : Int32} : am_u (am_u (am_u (am_u (am_u I 198 (7 + 5 * n) a) 198 (7 + 5 * n + 1) b) 198 (7 + 5 * n + 2) c) 198 (7 + 5 * n + 3) v) 198 (7 + 5 * n + 4) 0 198 = nr (I 198) n a b c v := by
  funext i
  unfold nr
  by_cases e4 : i = 7 + 5 * n + 4
  · subst e4; rw [am_u_at, if_neg (by omega), if_neg (by omega), if_neg (by omega), if_neg (by omega), if_pos rfl]
  · rw [am_u_nk e4]
    by_cases e3 : i = 7 + 5 * n + 3
    · subst e3; rw [am_u_at, if_neg (by omega), if_neg (by omega), if_neg (by omega), if_pos rfl]
    · rw [am_u_nk e3]
      by_cases e2 : i = 7 + 5 * n + 2
      · subst e2; rw [am_u_at, if_neg (by omega), if_neg (by omega), if_pos rfl]
      · rw [am_u_nk e2]
        by_cases e1 : i = 7 + 5 * n + 1
        · subst e1; rw [am_u_at, if_neg (by omega), if_pos rfl]
        · rw [am_u_nk e1]
          by_cases e0 : i = 7 + 5 * n
          · subst e0; rw [am_u_at, if_pos rfl]
          · rw [am_u_nk e0, if_neg e0, if_neg e1, if_neg e2, if_neg e3, if_neg e4]
theorem nr_nr {f : Nat → Int32} {n : Nat} {a b c v a' b' c' v' : Int32} : nr (nr f n a b c v) n a' b' c' v' = nr f n a' b' c' v' := by
  funext i
  unfold nr
  by_cases e0 : i = 7 + 5 * n
  · simp only [if_pos e0]
  · by_cases e1 : i = 7 + 5 * n + 1
    · simp only [if_neg e0, if_pos e1]
    · by_cases e2 : i = 7 + 5 * n + 2
      · simp only [if_neg e0, if_neg e1, if_pos e2]
      · by_cases e3 : i = 7 + 5 * n + 3
        · simp only [if_neg e0, if_neg e1, if_neg e2, if_pos e3]
        · by_cases e4 : i = 7 + 5 * n + 4
          · simp only [if_neg e0, if_neg e1, if_neg e2, if_neg e3, if_pos e4]
          · simp only [if_neg e0, if_neg e1, if_neg e2, if_neg e3, if_neg e4]
/-- said is f, but for what stands behind its roads -/
def snr (I : am_I) (f : Nat → Int32) (n : Nat) : Prop := I 198 = f ∨ ∃ a b c v, I 198 = nr f n a b c v
theorem snr.o {I : am_I} {f : Nat → Int32} {n i : Nat} (h : snr I f n) (hi : i < 7 + 5 * n ∨ 7 + 5 * n + 4 < i) : I 198 i = f i := by
  rcases h with h | ⟨a, b, c, v, h⟩
  · rw [h]
  · rw [h, nr_o hi]
theorem snr.n {I : am_I} {f : Nat → Int32} {n : Nat} {a b c v : Int32} (h : snr I f n) : nr (I 198) n a b c v = nr f n a b c v := by
  rcases h with h | ⟨a, b, c, v, h⟩
  · rw [h]
  · rw [h, nr_nr]
theorem lp_mnrI {I : am_I} {f : Nat → Int32} {P n C m dd a : Nat} {x2 : Int32} (hwS : wfS Rs f P n C m) (hw : wfRs Rs) (hM : RCm I Rs) (hn29 : I 186 29 = nI (n + 1)) (h1 : 1 ≤ dd) (h9 : dd ≤ 9) {K : Int32 × Int32 × Nat → Prop}
    (h : ∀ I' L' (x8 x9 : Value) st, frm [198, 199, 200] [24] I I' → snr I' f n → st.2.2 ≤ 9 → K st → am_W am_all (am_run (d + 8)) e_Model_better Q 73 [.ref 186, .int (nI dd), .int x2, .int (nI (7 + 5 * n)), .int st.1, .int st.2.1, .int (nI st.2.2), .int (nI (a + 1)), x8, x9] [] I' L' (gg Lx ρ) 0 0) : ∀ k b I' L' (x9 : Value) (st : Int32 × Int32 × Nat), b + k = P → a < b → frm [198, 199, 200] [24] I I' → snr I' f n → st.2.2 ≤ 9 → K (btI (pNS Rs f n m dd) a k b st) → am_W am_all (am_run (d + 8)) e_Model_better Q 90 [.ref 186, .int (nI dd), .int x2, .int (nI (7 + 5 * n)), .int st.1, .int st.2.1, .int (nI st.2.2), .int (nI a), .int (nI b), x9] [] I' L' (gg Lx ρ) 0 0
  | 0, b, I', L', x9, st, e, hab, hf, hsn, hst, hK => by
    have e : b = P := e
    subst e
    have hP := hwS.P
    have hno : ¬ nI b < I' 198 0 := by rw [hsn.o (by omega), hP.1]; exact nI_nlt (Nat.le_refl _) (by omega)
    refine sy_Model_better_90 (d := d + 7) _ _ _ _ _ _ _ _ _ (fun _ => ?_) (fun z => absurd z hno) (fun z => absurd z hno) (fun z => absurd z hno) (fun z => absurd z hno) (fun z => absurd z hno) (fun z => absurd z hno)
    rw [nI_1]
    exact h I' L' _ _ st hf hsn hst hK
  | k + 1, b, I', L', x9, st, e, hab, hf, hsn, hst, hK => by
    have hP := hwS.P
    have hm := hwS.m
    obtain ⟨hn1, hn16, hwf⟩ := hwS.n
    have e1 : nI (7 + 5 * n) + 1 = nI (7 + 5 * n + 1) := nI_add _ 1
    have e2 : nI (7 + 5 * n) + 2 = nI (7 + 5 * n + 2) := nI_add _ 2
    have e3 : nI (7 + 5 * n) + 3 = nI (7 + 5 * n + 3) := nI_add _ 3
    have e4 : nI (7 + 5 * n) + 4 = nI (7 + 5 * n + 4) := nI_add _ 4
    refine sy_Model_better_90 (d := d + 7) _ _ _ _ _ _ _ _ _ (fun z => absurd (by rw [hsn.o (by omega), hP.1]; exact nI_lt (by omega) (by omega)) z) (fun _ => vp_in_nI (by omega) (by decide)) (fun _ => by rw [e1]; exact vp_in_nI (by omega) (by decide)) (fun _ => by rw [e2]; exact vp_in_nI (by omega) (by decide)) (fun _ => by rw [e3]; exact vp_in_nI (by omega) (by decide)) (fun _ => by rw [e4]; exact vp_in_nI (by omega) (by decide)) (fun _ => ?_)
    rw [e1, e2, e3, e4, nI_clamp (n := 7 + 5 * n) (by omega), nI_clamp (n := 7 + 5 * n + 1) (by omega), nI_clamp (n := 7 + 5 * n + 2) (by omega), nI_clamp (n := 7 + 5 * n + 3) (by omega), nI_clamp (n := 7 + 5 * n + 4) (by omega)]
    have hI2 := mnr (I := I') (n := n) (a := nI a) (b := nI b) (c := nI dd) (v := 0)
    rw [hsn.n] at hI2
    generalize hJ : am_u (am_u (am_u (am_u (am_u I' 198 (7 + 5 * n) (nI a)) 198 (7 + 5 * n + 1) (nI b)) 198 (7 + 5 * n + 2) (nI dd)) 198 (7 + 5 * n + 3) 0) 198 (7 + 5 * n + 4) 0 = J at hI2 ⊢
    have hfJ : frm [198, 199, 200] [24] I J := by
      rw [← hJ]; exact ((((hf.u (by simp) (by decide)).u (by simp) (by decide)).u (by simp) (by decide)).u (by simp) (by decide)).u (by simp) (by decide)
    have hm2 : J 198 3 = nI m := by rw [hI2, nr_o (by omega)]; exact hm.1
    have hfo2 : foR Rs (J 198 6) := by rw [hI2, nr_o (by omega)]; exact hwS.fo
    have hwf2 : wfN (J 198) (n + 1) := by rw [hI2]; exact wfN_nr (v := 0) hwf (by omega) (show a < 10 by omega) (show b < 10 by omega) (by omega) h1 h9 (by omega)
    refine sp_Model_stuckOnes (d := d + 1) (Rs := Rs) (P := P) ((hfJ.2 29 (by simp)).trans hn29) hm2 hm.2 (by rw [hI2]; exact wfL_nr hn16 hwS.l) hwf2 hP.2 hfo2 hw (hfJ.M (by simp) (by simp) hM) (fun I3 L3 f3 l3 => ?_)
    rw [hI2]
    obtain ⟨x, hx, ex⟩ := pStB_8 Rs (nr f n (nI a) (nI b) (nI dd) 0) (n + 1) hm.2
    refine sy_Model_better_150 (d := d + 7) _ _ _ _ _ _ _ _ _ _ ?_
    rw [ex]
    refine sp_Model_bits (d := d + 7) hx ?_
    have epn : pNS Rs f n m dd a b = pop8 x := by unfold pNS; rw [ex, nI_clamp (by omega)]
    have hf3 : frm [198, 199, 200] [24] I I3 := hfJ.tr (f3.w (by simp) (by simp))
    have hsn3 : snr I3 f n := Or.inr ⟨_, _, _, _, (f3.1 198 (by decide) (by simp)).trans hI2⟩
    have hp8 := pop8_le x
    unfold btI at hK
    refine sy_Model_better_153 (d := d + 7) _ _ _ _ _ _ _ _ _ _ (fun z => ?_) (fun z => ?_)
    · have hlt : pNS Rs f n m dd a b < st.2.2 := by rw [epn]; exact (nI_ltI (by omega) (by omega)).mp z
      rw [if_pos hlt] at hK
      rw [nI_1, ← epn]
      exact lp_mnrI hwS hw hM hn29 h1 h9 h k (b + 1) I3 L3 _ (nI a, nI b, pNS Rs f n m dd a b) (by omega) (by omega) hf3 hsn3 (by show pNS Rs f n m dd a b ≤ 9; omega) hK
    · rw [if_neg (fun y => z (nI_lt (by rw [← epn]; exact y) (by omega)))] at hK
      rw [nI_1]
      exact lp_mnrI hwS hw hM hn29 h1 h9 h k (b + 1) I3 L3 _ st (by omega) (by omega) hf3 hsn3 hst hK
theorem lp_mnrO {I : am_I} {f : Nat → Int32} {P n C m dd : Nat} {x2 : Int32} (hwS : wfS Rs f P n C m) (hw : wfRs Rs) (hM : RCm I Rs) (hn29 : I 186 29 = nI (n + 1)) (h1 : 1 ≤ dd) (h9 : dd ≤ 9) {K : Int32 × Int32 × Nat → Prop}
    (h : ∀ I' L' (st : Int32 × Int32 × Nat), frm [198, 199, 200] [24] I I' → snr I' f n → K st → Q (some (.int (if x2 = 0 then st.1 else if x2 = 1 then st.2.1 else nI st.2.2))) I' L' (gg Lx ρ)) : ∀ k a I' L' (x8 x9 : Value) (st : Int32 × Int32 × Nat), a + k = P → frm [198, 199, 200] [24] I I' → snr I' f n → st.2.2 ≤ 9 → K (btO (pNS Rs f n m dd) P k a st) → am_W am_all (am_run (d + 8)) e_Model_better Q 73 [.ref 186, .int (nI dd), .int x2, .int (nI (7 + 5 * n)), .int st.1, .int st.2.1, .int (nI st.2.2), .int (nI a), x8, x9] [] I' L' (gg Lx ρ) 0 0
  | 0, a, I', L', x8, x9, st, e, hf, hsn, hst, hK => by
    have e : a = P := e
    subst e
    have hP := hwS.P
    have hno : ¬ nI a < I' 198 0 := by rw [hsn.o (by omega), hP.1]; exact nI_nlt (Nat.le_refl _) (by omega)
    have h := h I' L' st hf hsn hK
    refine sy_Model_better_73 (d := d + 7) _ _ _ _ _ _ _ _ _ (fun _ z z2 => ?_) (fun _ z z2 => ?_) (fun _ z => ?_) (fun z => absurd z hno)
    · rw [if_neg z, if_neg z2] at h; exact h
    · rw [if_neg z, if_pos z2] at h; exact h
    · rw [if_pos z] at h; exact h
  | k + 1, a, I', L', x8, x9, st, e, hf, hsn, hst, hK => by
    have hP := hwS.P
    have hyes : nI a < I' 198 0 := by rw [hsn.o (by omega), hP.1]; exact nI_lt (by omega) (by omega)
    refine sy_Model_better_73 (d := d + 7) _ _ _ _ _ _ _ _ _ (fun z => absurd hyes z) (fun z => absurd hyes z) (fun z => absurd hyes z) (fun _ => ?_)
    rw [nI_1]
    unfold btO at hK
    exact lp_mnrI (d := d) hwS hw hM hn29 h1 h9 (K := fun s => K (btO (pNS Rs f n m dd) P k (a + 1) s)) (fun I2 L2 y8 y9 s2 f2 n2 t2 k2 => lp_mnrO hwS hw hM hn29 h1 h9 h k (a + 1) I2 L2 _ _ s2 (by omega) f2 n2 t2 k2) (P - (a + 1)) (a + 1) I' L' _ st (by omega) (by omega) hf hsn hst hK
theorem sp_Model_better {I : am_I} {L : am_L} {P n C m : Nat} {dy w : Int32} (hwS : wfS Rs (I 198) P n C m) (hw : wfRs Rs) (hM : RCm I Rs)
    (h : ∀ I' L', frB n I I' → Q (some (.int (pBt Rs (I 198) P n m dy w))) I' L' (gg Lx ρ)) : am_run (d + 9) m_Model_better [.ref 186, .int dy, .int w] I L (gg Lx ρ) Q := by
  have hP := hwS.P
  obtain ⟨hn1, hn16, hwf⟩ := hwS.n
  have i1 : mIn (Int32.toInt64 dy) 1 9 ↔ (¬ dy < 1 ∧ ¬ 9 < dy) := mIn_i (a := 1) (b := 9)
  have i2 : mIn (Int32.toInt64 w) 0 2 ↔ (¬ w < 0 ∧ ¬ 2 < w) := mIn_i (a := 0) (b := 2)
  unfold pBt at h
  refine run_in rfl rfl ⟨rfl, rfl⟩ (sy_Model_better_0 (d := d + 7) _ _ (fun z => ?_) (fun _ z => ?_) (fun z z2 z3 => ?_) (fun _ _ z => ?_))
  · rw [hP.1] at z
    rw [if_neg (fun y => absurd z (nI_nlt (b := 2) y.2.2.2.2 (by omega)))] at h; exact h I L frB.rf
  · rw [if_neg (fun y => z (i1.mpr ⟨y.1, y.2.1⟩))] at h; exact h I L frB.rf
  · rw [hP.1] at z
    have hP2 : 2 ≤ P := Nat.le_of_not_lt fun y => z (nI_lt (b := 2) y (by decide))
    have z2 := i1.mp z2
    have z3 := i2.mp z3
    rw [if_pos ⟨z2.1, z2.2, z3.1, z3.2, hP2⟩] at h
    obtain ⟨dd, d1, d9, rfl⟩ := nI_btw (a := 1) (b := 9) rfl rfl (by decide) (by decide) z2.1 z2.2
    rw [nI_clamp (by omega)] at h
    have e7 : 7 + (5 * I 198 1) = nI (7 + 5 * n) := by rw [hn1, show (7 : Int32) = nI 7 from rfl, show (5 : Int32) = nI 5 from rfl, pk_mul, nI_add]
    rw [e7, hn1, nI_1]
    have f0 : frm [198, 199, 200] [24, 29] I (am_u I 186 29 (nI (n + 1))) := frm.rf.uf (by simp)
    refine lp_mnrO (d := d) (Rs := Rs) (I := am_u I 186 29 (nI (n + 1))) (f := I 198) (P := P) (n := n) (C := C) (m := m) (dd := dd) (K := fun s => s = btO (pNS Rs (I 198) n m dd) P P 0 (-1, -1, 9)) hwS hw (f0.M (by simp) (by simp) hM) am_u_at d1 d9 (fun I' L' st f1 n1 k1 => ?_) P 0 _ L _ _ (-1, -1, 9) (by omega) frm.rf (Or.inl (am_u_ne (by decide))) (by decide) rfl
    subst k1
    have f01 : frm [198, 199, 200] [24, 29] I I' := f0.tr (f1.w (by simp) (by simp))
    refine h I' L' ⟨fun a z y => f01.1 a z (by simp; omega), fun k hk => f01.2 k (by simp; omega), fun i hi => n1.o (by omega)⟩
  · rw [if_neg (fun y => z (i2.mpr ⟨y.2.2.1, y.2.2.2.1⟩))] at h; exact h I L frB.rf
end NRD
