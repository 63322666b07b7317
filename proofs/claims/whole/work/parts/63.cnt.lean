/-! ===== counts; images; the tape; what stays well formed ===== -/
def cnt (p : Nat → Bool) : Nat → Nat
  | 0 => 0
  | n + 1 => if p n = true then cnt p n + 1 else cnt p n
def qTh (f : Nat → Int32) : Nat → Bool := fun l => decide (f (104 + 4 * l + 1) = f (104 + 4 * l + 2))
def qSe (f : Nat → Int32) : Nat → Bool := fun r => decide (¬ f (136 + r) = -1)
def qUn (f : Nat → Int32) : Nat → Bool := fun r => decide (f (7 + 5 * r + 3) = 0)
def pCt (Rs : List (List (Nat × List Nat))) (f : Nat → Int32) (t n m : Nat) (w : Int32) : Int32 :=
  if w = 0 then f 0 else if w = 1 then f 1 else if w = 2 then f 2 else if w = 3 then f 3 else if w = 4 then nI (cnt (qTh f) m) else if w = 5 then f 4 else if w = 6 then nI Rs.length else if w = 7 then f 6 else if w = 8 then nI (cnt (qSe f) n) else if w = 9 then f 5 else if w = 10 then nI t else if w = 11 then nI (cnt (qUn f) n) else -1
section CNT
variable {d Lx : Nat} {ρ : List (Nat × Nat)} {Q : am_Q} {Rs : List (List (Nat × List Nat))}
theorem lp_cTh {I : am_I} {L : am_L} {f : Nat → Int32} {n C m : Nat} (hS : stS I 94 f n C m) (hm : m ≤ 8) (h : Q (some (.int (nI (cnt (qTh f) m)))) I L (gg Lx ρ)) : ∀ k l, l + k = m → am_W am_all (am_run (d + 2)) e_State_countThere Q 4 [.ref 94, .int (nI (cnt (qTh f) l)), .int (nI l)] [] I L (gg Lx ρ) 0 0
  | 0, l, e => by
    have e : l = m := e
    subst e
    have hno : ¬ nI l < I 94 10 := by rw [hS.2.2.1]; exact nI_nlt (Nat.le_refl _) (by omega)
    exact sy_State_countThere_4 94 _ _ (by decide) (fun _ => h) (fun z => absurd z hno) (fun z => absurd z hno)
  | k + 1, l, e => by
    have hl : l < m := by omega
    have hT : hTh I 94 (nI l) ↔ qTh f l = true := by
      obtain ⟨q1, q2, q3, q4⟩ := hS.2.2.2.2.2.1 l hl
      unfold hTh qTh
      rw [nI_clamp (by omega), q2, q3, decide_eq_true_iff]
      exact ⟨fun z => z.2, fun z => ⟨hLo_n hS hl hm, z⟩⟩
    have ih := lp_cTh hS hm h k (l + 1) (by omega)
    unfold cnt at ih
    refine sy_State_countThere_4 94 _ _ (by decide) (fun z => absurd (by rw [hS.2.2.1]; exact nI_lt hl (by omega)) z) (fun _ z => ?_) (fun _ z => ?_)
    · rw [if_neg (fun q => z (hT.mpr q))] at ih; rw [nI_1]; exact ih
    · rw [if_pos (hT.mp z)] at ih; rw [nI_1, nI_1]; exact ih
theorem lp_cSe {I : am_I} {L : am_L} {K : am_C} {f : Nat → Int32} {n C m : Nat} (hS : stS I 94 f n C m) (hn : n ≤ 16) (h : Q (some (.int (nI (cnt (qSe f) n)))) I L (gg Lx ρ)) : ∀ k l, l + k = n → am_W am_all K e_State_countSeen Q 4 [.ref 94, .int (nI (cnt (qSe f) l)), .int (nI l)] [] I L (gg Lx ρ) 0 0
  | 0, l, e => by
    have e : l = n := e
    subst e
    have hno : ¬ nI l < I 95 6 := by rw [show I 95 6 = nI l from hS.1.2.1]; exact nI_nlt (Nat.le_refl _) (by omega)
    exact sz_State_countSeen_4 94 _ _ (by decide) (fun _ => h) (fun z => absurd z hno) (fun z => absurd z hno) (fun z => absurd z hno) (fun z => absurd z hno)
  | k + 1, l, e => by
    have hl : l < n := by omega
    have hyes : nI l < I 95 6 := by rw [show I 95 6 = nI n from hS.1.2.1]; exact nI_lt hl (by omega)
    have h16 : nI l < 16 := nI_lt (b := 16) (by omega) (by decide)
    have hT : I 108 (nI l).toNatClampNeg = f (136 + l) := by rw [nI_clamp (by omega)]; exact hS.2.2.2.2.2.2 l hl
    have ih := lp_cSe (K := K) hS hn h k (l + 1) (by omega)
    unfold cnt at ih
    refine sz_State_countSeen_4 94 _ _ (by decide) (fun z => absurd hyes z) (fun _ z => absurd h16 z) (fun _ _ => vp_in_nI (by omega) (by decide)) (fun _ _ z => ?_) (fun _ _ z => ?_)
    · have z : f (136 + l) = -1 := hT.symm.trans z
      rw [if_neg (show ¬ qSe f l = true from fun q => of_decide_eq_true q z)] at ih; rw [nI_1]; exact ih
    · have z : ¬ f (136 + l) = -1 := fun q => z (hT.trans q)
      rw [if_pos (show qSe f l = true from decide_eq_true z)] at ih; rw [nI_1, nI_1]; exact ih
theorem lp_cUn {I : am_I} {L : am_L} {K : am_C} {f : Nat → Int32} {n C m : Nat} (hS : stS I 94 f n C m) (hn : n ≤ 16) (h : Q (some (.int (nI (cnt (qUn f) n)))) I L (gg Lx ρ)) : ∀ k l, l + k = n → am_W am_all K e_Roads_countUnused Q 4 [.ref 95, .int (nI (cnt (qUn f) l)), .int (nI l)] [] I L (gg Lx ρ) 0 0
  | 0, l, e => by
    have e : l = n := e
    subst e
    have hno : ¬ nI l < I 95 6 := by rw [show I 95 6 = nI l from hS.1.2.1]; exact nI_nlt (Nat.le_refl _) (by omega)
    exact sz_Roads_countUnused_4 95 _ _ (by decide) (fun _ => h) (fun z => absurd z hno) (fun z => absurd z hno) (fun z => absurd z hno) (fun z => absurd z hno)
  | k + 1, l, e => by
    have hl : l < n := by omega
    have hyes : nI l < I 95 6 := by rw [show I 95 6 = nI n from hS.1.2.1]; exact nI_lt hl (by omega)
    have h17 : nI l < 17 := nI_lt (b := 17) (by omega) (by decide)
    have hT : I 99 (nI l).toNatClampNeg = f (7 + 5 * l + 3) := by rw [nI_clamp (by omega)]; exact (hS.1.2.2.2.2 l hl).2.2.2.1
    have ih := lp_cUn (K := K) hS hn h k (l + 1) (by omega)
    unfold cnt at ih
    refine sz_Roads_countUnused_4 95 _ _ (by decide) (fun z => absurd hyes z) (fun _ z => absurd h17 z) (fun _ _ => vp_in_nI (by omega) (by decide)) (fun _ _ z => ?_) (fun _ _ z => ?_)
    · have z : ¬ f (7 + 5 * l + 3) = 0 := fun q => z (hT.trans q)
      rw [if_neg (show ¬ qUn f l = true from fun q => z (of_decide_eq_true q))] at ih; rw [nI_1]; exact ih
    · have z : f (7 + 5 * l + 3) = 0 := hT.symm.trans z
      rw [if_pos (show qUn f l = true from decide_eq_true z)] at ih; rw [nI_1, nI_1]; exact ih
theorem pCt_0 {f : Nat → Int32} {t n m : Nat} : pCt Rs f t n m 0 = f 0 := by
  unfold pCt; rw [if_pos rfl]
theorem pCt_1 {f : Nat → Int32} {t n m : Nat} : pCt Rs f t n m 1 = f 1 := by
  unfold pCt; rw [if_neg (by decide), if_pos rfl]
theorem pCt_2 {f : Nat → Int32} {t n m : Nat} : pCt Rs f t n m 2 = f 2 := by
  unfold pCt; rw [if_neg (by decide), if_neg (by decide), if_pos rfl]
theorem pCt_3 {f : Nat → Int32} {t n m : Nat} : pCt Rs f t n m 3 = f 3 := by
  unfold pCt; rw [if_neg (by decide), if_neg (by decide), if_neg (by decide), if_pos rfl]
theorem pCt_4 {f : Nat → Int32} {t n m : Nat} : pCt Rs f t n m 4 = nI (cnt (qTh f) m) := by
  unfold pCt; rw [if_neg (by decide), if_neg (by decide), if_neg (by decide), if_neg (by decide), if_pos rfl]
theorem pCt_5 {f : Nat → Int32} {t n m : Nat} : pCt Rs f t n m 5 = f 4 := by
  unfold pCt; rw [if_neg (by decide), if_neg (by decide), if_neg (by decide), if_neg (by decide), if_neg (by decide), if_pos rfl]
theorem pCt_6 {f : Nat → Int32} {t n m : Nat} : pCt Rs f t n m 6 = nI Rs.length := by
  unfold pCt; rw [if_neg (by decide), if_neg (by decide), if_neg (by decide), if_neg (by decide), if_neg (by decide), if_neg (by decide), if_pos rfl]
theorem pCt_7 {f : Nat → Int32} {t n m : Nat} : pCt Rs f t n m 7 = f 6 := by
  unfold pCt; rw [if_neg (by decide), if_neg (by decide), if_neg (by decide), if_neg (by decide), if_neg (by decide), if_neg (by decide), if_neg (by decide), if_pos rfl]
theorem pCt_8 {f : Nat → Int32} {t n m : Nat} : pCt Rs f t n m 8 = nI (cnt (qSe f) n) := by
  unfold pCt; rw [if_neg (by decide), if_neg (by decide), if_neg (by decide), if_neg (by decide), if_neg (by decide), if_neg (by decide), if_neg (by decide), if_neg (by decide), if_pos rfl]
theorem pCt_9 {f : Nat → Int32} {t n m : Nat} : pCt Rs f t n m 9 = f 5 := by
  unfold pCt; rw [if_neg (by decide), if_neg (by decide), if_neg (by decide), if_neg (by decide), if_neg (by decide), if_neg (by decide), if_neg (by decide), if_neg (by decide), if_neg (by decide), if_pos rfl]
theorem pCt_10 {f : Nat → Int32} {t n m : Nat} : pCt Rs f t n m 10 = nI t := by
  unfold pCt; rw [if_neg (by decide), if_neg (by decide), if_neg (by decide), if_neg (by decide), if_neg (by decide), if_neg (by decide), if_neg (by decide), if_neg (by decide), if_neg (by decide), if_neg (by decide), if_pos rfl]
theorem pCt_11 {f : Nat → Int32} {t n m : Nat} : pCt Rs f t n m 11 = nI (cnt (qUn f) n) := by
  unfold pCt; rw [if_neg (by decide), if_neg (by decide), if_neg (by decide), if_neg (by decide), if_neg (by decide), if_neg (by decide), if_neg (by decide), if_neg (by decide), if_neg (by decide), if_neg (by decide), if_neg (by decide), if_pos rfl]
theorem pCt_x {f : Nat → Int32} {t n m : Nat} {w : Int32} (h : w < 0 ∨ 11 < w) : pCt Rs f t n m w = -1 := by
  have k : ∀ c : Int32, ¬ c < 0 → ¬ 11 < c → ¬ w = c := fun c h0 h1 e => by subst e; exact h.elim h0 h1
  unfold pCt; rw [if_neg (k 0 (by decide) (by decide)), if_neg (k 1 (by decide) (by decide)), if_neg (k 2 (by decide) (by decide)), if_neg (k 3 (by decide) (by decide)), if_neg (k 4 (by decide) (by decide)), if_neg (k 5 (by decide) (by decide)), if_neg (k 6 (by decide) (by decide)), if_neg (k 7 (by decide) (by decide)), if_neg (k 8 (by decide) (by decide)), if_neg (k 9 (by decide) (by decide)), if_neg (k 10 (by decide) (by decide)), if_neg (k 11 (by decide) (by decide))]
theorem sp_LL_count {I : am_I} {L : am_L} {f : Nat → Int32} {P n C m t : Nat} {w : Int32} (hS : stS I 94 f n C m) (hwS : wfS Rs f P n C m) (hRC : RCc I ρ Rs) (ht : I 13 1 = nI t) (h : Q (some (.int (pCt Rs f t n m w))) I L (gg Lx ρ)) : am_run (d + 4) m_LL_count [.ref 12, .int w] I L (gg Lx ρ) Q := by
  have hn := hwS.n
  have hm := hwS.m
  refine run_in rfl rfl ⟨rfl, rfl⟩ (sz_LL_count_0 _ (fun z => ?_) (fun z => ?_) (fun z => ?_) (fun z => ?_) (fun z => ?_) (fun z => ?_) (fun z => ?_) (fun z => ?_) (fun z => ?_) (fun z => ?_) (fun z => ?_) (fun z => ?_) (fun z => ?_))
  · have e : w = 0 := sw_i (by decide) z
    subst e; rw [pCt_0] at h; rw [show I 95 5 = f 0 from hS.1.1]; exact h
  · have e : w = 1 := sw_i (by decide) z
    subst e; rw [pCt_1, hn.1] at h; rw [show I 95 6 = nI n from hS.1.2.1]; exact h
  · have e : w = 2 := sw_i (by decide) z
    subst e; rw [pCt_2, hwS.C.1] at h; rw [hS.2.1]; exact h
  · have e : w = 3 := sw_i (by decide) z
    subst e; rw [pCt_3, hm.1] at h; rw [hS.2.2.1]; exact h
  · have e : w = 4 := sw_i (by decide) z
    subst e; rw [pCt_4] at h
    exact run_in rfl rfl ⟨rfl, rfl⟩ (sy_State_countThere_0 (d := d) 94 (by decide) (lp_cTh hS hm.2 (sz_LL_count_109 _ _ h) m 0 (by omega)))
  · have e : w = 5 := sw_i (by decide) z
    subst e; rw [pCt_5] at h; rw [show I 95 7 = f 4 from hS.1.2.2.1]; exact h
  · have e : w = 6 := sw_i (by decide) z
    subst e; rw [pCt_6] at h; rw [hRC.2.1]; exact h
  · have e : w = 7 := sw_i (by decide) z
    subst e; rw [pCt_7] at h; rw [show I 95 8 = f 6 from hS.1.2.2.2.1]; exact h
  · have e : w = 8 := sw_i (by decide) z
    subst e; rw [pCt_8] at h
    exact run_in rfl rfl ⟨rfl, rfl⟩ (sz_State_countSeen_0 94 (by decide) (lp_cSe hS hn.2.1 (sz_LL_count_147 _ _ h) n 0 (by omega)))
  · have e : w = 9 := sw_i (by decide) z
    subst e; rw [pCt_9] at h; rw [hS.2.2.2.1]; exact h
  · have e : w = 10 := sw_i (by decide) z
    subst e; rw [pCt_10] at h; rw [ht]; exact h
  · have e : w = 11 := sw_i (by decide) z
    subst e; rw [pCt_11] at h
    exact run_in rfl rfl ⟨rfl, rfl⟩ (sz_Roads_countUnused_0 95 (by decide) (lp_cUn hS hn.2.1 (sz_LL_count_174 _ _ h) n 0 (by omega)))
  · rw [pCt_x (sw_d (by decide) (by decide) z)] at h; exact h
theorem lp_mTh {I : am_I} {L : am_L} {m : Nat} {x1 : Int32} (hm1 : I 198 3 = nI m) (hm : m ≤ 8) (h : Q (some (.int (nI (cnt (qTh (I 198)) m)))) I L (gg Lx ρ)) : ∀ k l, l + k = m → am_W am_all (am_run (d + 2)) e_Model_count Q 73 [.ref 186, .int x1, .int (nI (cnt (qTh (I 198)) l)), .int (nI l)] [] I L (gg Lx ρ) 0 0
  | 0, l, e => by
    have e : l = m := e
    subst e
    have hno : ¬ nI l < I 198 3 := by rw [hm1]; exact nI_nlt (Nat.le_refl _) (by omega)
    exact sy_Model_count_73 _ _ _ (fun _ => h) (fun z => absurd z hno) (fun z => absurd z hno) (fun z => absurd z hno) (fun z => absurd z hno)
  | k + 1, l, e => by
    have hl : l < m := by omega
    have hT : mEnd I (nI l) ↔ qTh (I 198) l = true := by
      unfold mEnd qTh
      rw [show mL I (nI l) 1 = I 198 (104 + 4 * l + 1) from mL_n (c := 1) (by omega), show mL I (nI l) 2 = I 198 (104 + 4 * l + 2) from mL_n (c := 2) (by omega), decide_eq_true_iff]
    have ih := lp_mTh (x1 := x1) hm1 hm h k (l + 1) (by omega)
    unfold cnt at ih
    refine sy_Model_count_73 _ _ _ (fun z => absurd (by rw [hm1]; exact nI_lt hl (by omega)) z) (fun _ => oL_n (c := 1) (by omega)) (fun _ => oL_n (c := 2) (by omega)) (fun _ z => ?_) (fun _ z => ?_)
    · rw [if_neg (fun q => z (hT.mpr q))] at ih; rw [nI_1, nI_add0]; exact ih
    · rw [if_pos (hT.mp z)] at ih; rw [nI_1, nI_1]; exact ih
theorem lp_mSe {I : am_I} {L : am_L} {n : Nat} {x1 : Int32} (hn1 : I 198 1 = nI n) (hn : n ≤ 16) (hs : ∀ r, r < n → I 198 (136 + r) = -1 ∨ ¬ I 198 (136 + r) < 0) (h : Q (some (.int (nI (cnt (qSe (I 198)) n)))) I L (gg Lx ρ)) : ∀ k l, l + k = n → am_W am_all (am_run (d + 2)) e_Model_count Q 129 [.ref 186, .int x1, .int (nI (cnt (qSe (I 198)) l)), .int (nI l)] [] I L (gg Lx ρ) 0 0
  | 0, l, e => by
    have e : l = n := e
    subst e
    have hno : ¬ nI l < I 198 1 := by rw [hn1]; exact nI_nlt (Nat.le_refl _) (by omega)
    exact sy_Model_count_129 _ _ _ (fun _ => h) (fun z => absurd z hno) (fun z => absurd z hno) (fun z => absurd z hno)
  | k + 1, l, e => by
    have hl : l < n := by omega
    have k136 : (136 + nI l : Int32) = nI (136 + l) := by rw [show (136 : Int32) = nI 136 from rfl, nI_add]
    have ih := lp_mSe (x1 := x1) hn1 hn hs h k (l + 1) (by omega)
    unfold cnt at ih
    refine sy_Model_count_129 _ _ _ (fun z => absurd (by rw [hn1]; exact nI_lt hl (by omega)) z) (fun _ => by rw [k136]; exact vp_in_nI (by omega) (by decide)) (fun _ z => ?_) (fun _ z => ?_)
    · rw [k136, nI_clamp (by omega)] at z
      rw [if_pos (show qSe (I 198) l = true from decide_eq_true (fun q => z (by rw [q]; decide)))] at ih; rw [nI_1, nI_1]; exact ih
    · rw [k136, nI_clamp (by omega)] at z
      rw [if_neg (show ¬ qSe (I 198) l = true from fun q => of_decide_eq_true q ((hs l hl).resolve_right (fun y => y z)))] at ih; rw [nI_1, nI_add0]; exact ih
theorem lp_mUn {I : am_I} {L : am_L} {n : Nat} {x1 : Int32} (hn1 : I 198 1 = nI n) (hn : n ≤ 16) (h : Q (some (.int (nI (cnt (qUn (I 198)) n)))) I L (gg Lx ρ)) : ∀ k l, l + k = n → am_W am_all (am_run (d + 2)) e_Model_count Q 182 [.ref 186, .int x1, .int (nI (cnt (qUn (I 198)) l)), .int (nI l)] [] I L (gg Lx ρ) 0 0
  | 0, l, e => by
    have e : l = n := e
    subst e
    have hno : ¬ nI l < I 198 1 := by rw [hn1]; exact nI_nlt (Nat.le_refl _) (by omega)
    exact sy_Model_count_182 _ _ _ (fun _ => h) (fun z => absurd z hno) (fun z => absurd z hno) (fun z => absurd z hno)
  | k + 1, l, e => by
    have hl : l < n := by omega
    have er : mR I (nI l) 3 = I 198 (7 + 5 * l + 3) := mR_n (c := 3) (by omega)
    have ih := lp_mUn (x1 := x1) hn1 hn h k (l + 1) (by omega)
    unfold cnt at ih
    refine sy_Model_count_182 _ _ _ (fun z => absurd (by rw [hn1]; exact nI_lt hl (by omega)) z) (fun _ => oR_n (c := 3) (by omega)) (fun _ z => ?_) (fun _ z => ?_)
    · rw [er] at z
      rw [if_neg (show ¬ qUn (I 198) l = true from fun q => z (of_decide_eq_true q))] at ih; rw [nI_1, nI_add0]; exact ih
    · rw [er] at z
      rw [if_pos (show qUn (I 198) l = true from decide_eq_true z)] at ih; rw [nI_1, nI_1]; exact ih
theorem sp_Model_count {I : am_I} {L : am_L} {P n C m t : Nat} {w : Int32} (hwS : wfS Rs (I 198) P n C m) (hM : RCm I Rs) (ht : I 186 1 = nI t) (h : Q (some (.int (pCt Rs (I 198) t n m w))) I L (gg Lx ρ)) : am_run (d + 3) m_Model_count [.ref 186, .int w] I L (gg Lx ρ) Q := by
  have hn := hwS.n
  have hm := hwS.m
  refine run_in rfl rfl ⟨rfl, rfl⟩ (sy_Model_count_0 (d := d) _ (fun e => ?_) (fun e => ?_) (fun e => ?_) (fun e => ?_) (fun e => ?_) (fun e => ?_) (fun e => ?_) (fun e => ?_) (fun e => ?_) (fun e => ?_) (fun e => ?_) (fun e => ?_) (fun e => ?_) (fun e => ?_) (fun e => ?_) (fun e => ?_) (fun e => ?_))
  · subst e; exact vp_in_nI (n := 0) (by decide) (by decide)
  · subst e; rw [pCt_0] at h; exact h
  · subst e; exact vp_in_nI (n := 1) (by decide) (by decide)
  · subst e; rw [pCt_1] at h; exact h
  · subst e; exact vp_in_nI (n := 2) (by decide) (by decide)
  · subst e; rw [pCt_2] at h; exact h
  · subst e; exact vp_in_nI (n := 3) (by decide) (by decide)
  · subst e; rw [pCt_3] at h; exact h
  · subst e; rw [pCt_4] at h; exact lp_mTh hm.1 hm.2 h m 0 (by omega)
  · subst e; rw [pCt_5] at h; exact h
  · subst e; rw [pCt_6] at h; rw [hM.1]; exact h
  · subst e; rw [pCt_7] at h; exact h
  · subst e; rw [pCt_8] at h; exact lp_mSe hn.1 hn.2.1 hwS.s h n 0 (by omega)
  · subst e; rw [pCt_9] at h; exact h
  · subst e; rw [pCt_10] at h; rw [ht]; exact h
  · subst e; rw [pCt_11] at h; exact lp_mUn hn.1 hn.2.1 h n 0 (by omega)
  · rw [pCt_x e] at h; exact h
end CNT
