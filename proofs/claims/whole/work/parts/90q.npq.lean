/-! ===== net: the reference writes the said ===== -/
def sdD (a1 a2 a3 a4 i : Nat) : Prop := i < 5 ∨ (7 ≤ i ∧ i < 7 + a1) ∨ (92 ≤ i ∧ i < 92 + a2) ∨ (104 ≤ i ∧ i < 104 + a3) ∨ (136 ≤ i ∧ i < 136 + a4)
def sdS (I2 I : am_I) (f : Nat → Int32) (s : NS) (a1 a2 a3 a4 : Nat) : Prop := (∀ a, a ≠ 198 → I a = I2 a) ∧ ∀ i, i < 152 → (sdD a1 a2 a3 a4 i → I 198 i = fin s i) ∧ (¬ sdD a1 a2 a3 a4 i → I 198 i = f i)
theorem sdS_u {I2 I : am_I} {f : Nat → Int32} {s : NS} {a1 a2 a3 a4 b1 b2 b3 b4 k : Nat} {v : Int32} (h : sdS I2 I f s a1 a2 a3 a4) (hv : v = fin s k) (hD : ∀ i, i < 152 → (sdD b1 b2 b3 b4 i ↔ sdD a1 a2 a3 a4 i ∨ i = k)) : sdS I2 (am_u I 198 k v) f s b1 b2 b3 b4 := by
  refine ⟨fun a z => by rw [am_u_ne z]; exact h.1 a z, fun i hi => ⟨fun y => ?_, fun y => ?_⟩⟩
  · by_cases z : i = k
    · subst z; rw [am_u_at]; exact hv
    · rw [am_u_nk z]; exact (h.2 i hi).1 (((hD i hi).mp y).resolve_right z)
  · have z : i ≠ k := fun q => y ((hD i hi).mpr (Or.inr q))
    rw [am_u_nk z]; exact (h.2 i hi).2 (fun q => y ((hD i hi).mpr (Or.inl q)))
section NPQ
variable {d Lx : Nat} {ρ : List (Nat × Nat)} {Q : am_Q}
theorem lp_n250 {C : am_C} {L : am_L} {I2 : am_I} {f : Nat → Int32} {s : NS} {x2 : Value} {a1 a2 a3 : Nat} (g136 : ∀ r, r < 16 → s.g (136 + r) = -1) (h8 : I2 186 8 = nI s.n)
    (h : ∀ I', sdS I2 I' f s a1 a2 a3 16 → Q (some (.int (nI s.n))) I' L (gg Lx ρ)) : ∀ F k I, k + F = 16 → sdS I2 I f s a1 a2 a3 k → am_W am_all C e_Model_net Q 250 [.ref 186, .int (nI k), x2] [] I L (gg Lx ρ) 0 0 := by
  intro F
  induction F with
  | zero =>
    intro k I hk hI
    have : k = 16 := by omega
    subst this
    refine sz_Model_net_250 _ _ (fun _ => ?_) (fun z => absurd z (by decide)) (fun z => absurd z (by decide))
    rw [hI.1 186 (by decide), h8]
    exact h I hI
  | succ F ih =>
    intro k I hk hI
    have e : (136 : Int32) + nI k = nI (136 + k) := nI_add 136 k
    refine sz_Model_net_250 _ _ (fun z => absurd (nI_lt (b := 16) (by omega) (by decide)) z) (fun _ => ?_) (fun _ => ?_)
    · rw [e]; exact vp_in_nI (by omega) (by decide)
    · rw [e, nI_clamp (by omega), nI_1]
      refine ih (k + 1) _ (by omega) (sdS_u hI ?_ (fun i hi => ?_))
      · rw [fin_o (by omega), g136 k (by omega)]
      · unfold sdD; omega
theorem lp_n217 {C : am_C} {L : am_L} {I2 : am_I} {f : Nat → Int32} {s : NS} {x2 : Value} {a1 a2 : Nat} (hm : s.m ≤ 8) (g136 : ∀ r, r < 16 → s.g (136 + r) = -1) (hs : nsM I2 s)
    (h : ∀ I', sdS I2 I' f s a1 a2 (4 * s.m) 16 → Q (some (.int (nI s.n))) I' L (gg Lx ρ)) : ∀ F k I, k + F = 4 * s.m → sdS I2 I f s a1 a2 k 0 → am_W am_all C e_Model_net Q 217 [.ref 186, .int (nI k), x2] [] I L (gg Lx ρ) 0 0 := by
  have e4 : (4 : Int32) * nI s.m = nI (4 * s.m) := pk_mul 4 s.m
  intro F
  induction F with
  | zero =>
    intro k I hk hI
    have hk : k = 4 * s.m := by omega
    subst hk
    have e10 : I 186 10 = nI s.m := by rw [hI.1 186 (by decide)]; exact hs.2.2.2.1
    refine sz_Model_net_217 _ _ (fun _ => ?_) (fun z => ?_) (fun z => ?_) (fun z => ?_)
    · exact lp_n250 g136 hs.2.1 h 16 0 I (by omega) hI
    · rw [e10, e4] at z; exact absurd z (nI_nlt (Nat.le_refl _) (by omega))
    · rw [e10, e4] at z; exact absurd z (nI_nlt (Nat.le_refl _) (by omega))
    · rw [e10, e4] at z; exact absurd z (nI_nlt (Nat.le_refl _) (by omega))
  | succ F ih =>
    intro k I hk hI
    have e10 : I 186 10 = nI s.m := by rw [hI.1 186 (by decide)]; exact hs.2.2.2.1
    have e : (104 : Int32) + nI k = nI (104 + k) := nI_add 104 k
    refine sz_Model_net_217 _ _ (fun z => ?_) (fun z => ?_) (fun z => ?_) (fun z => ?_)
    · rw [e10, e4] at z; exact absurd (nI_lt (by omega) (by omega)) z
    · exact vp_in_nI (by omega) (by decide)
    · rw [e]; exact vp_in_nI (by omega) (by decide)
    · rw [e, nI_clamp (by omega), nI_clamp (by omega), nI_1]
      refine ih (k + 1) _ (by omega) (sdS_u hI ?_ (fun i hi => ?_))
      · rw [fin_o (by omega), hI.1 194 (by decide)]; exact hs.2.2.2.2.2.2 k (by omega)
      · unfold sdD; omega
theorem lp_n156 {C : am_C} {L : am_L} {I2 : am_I} {f : Nat → Int32} {s : NS} {x2 : Value} {a1 : Nat} (hC : s.C ≤ 4) (hm : s.m ≤ 8) (g136 : ∀ r, r < 16 → s.g (136 + r) = -1) (hs : nsM I2 s) (hw : wfCa s.g s.C)
    (h : ∀ I', sdS I2 I' f s a1 (3 * s.C) (4 * s.m) 16 → Q (some (.int (nI s.n))) I' L (gg Lx ρ)) : ∀ F k I, k + F = s.C → sdS I2 I f s a1 (3 * k) 0 0 → am_W am_all C e_Model_net Q 156 [.ref 186, .int (nI k), x2] [] I L (gg Lx ρ) 0 0 := by
  intro F
  induction F with
  | zero =>
    intro k I hk hI
    have hk : k = s.C := by omega
    subst hk
    have e9 : I 186 9 = nI s.C := by rw [hI.1 186 (by decide)]; exact hs.2.2.1
    refine sz_Model_net_156 _ _ (fun _ => ?_) (fun z => ?_) (fun z => ?_) (fun z => ?_) (fun z => ?_) (fun z => ?_)
    · exact lp_n217 hm g136 hs h (4 * s.m) 0 I (by omega) hI
    · rw [e9] at z; exact absurd z (nI_nlt (Nat.le_refl _) (by omega))
    · rw [e9] at z; exact absurd z (nI_nlt (Nat.le_refl _) (by omega))
    · rw [e9] at z; exact absurd z (nI_nlt (Nat.le_refl _) (by omega))
    · rw [e9] at z; exact absurd z (nI_nlt (Nat.le_refl _) (by omega))
    · rw [e9] at z; exact absurd z (nI_nlt (Nat.le_refl _) (by omega))
  | succ F ih =>
    intro k I hk hI
    have e9 : I 186 9 = nI s.C := by rw [hI.1 186 (by decide)]; exact hs.2.2.1
    have e3 : (3 : Int32) * nI k = nI (3 * k) := pk_mul 3 k
    have e : (92 : Int32) + nI (3 * k) = nI (92 + 3 * k) := nI_add 92 _
    have e1 : nI (92 + 3 * k) + 1 = nI (92 + 3 * k + 1) := nI_add _ 1
    have e2 : nI (92 + 3 * k) + 2 = nI (92 + 3 * k + 2) := nI_add _ 2
    have w := hw k (by omega)
    refine sz_Model_net_156 _ _ (fun z => ?_) (fun z => ?_) (fun z => ?_) (fun z => ?_) (fun z => ?_) (fun z => ?_)
    · rw [e9] at z; exact absurd (nI_lt (by omega) (by omega)) z
    · exact vp_in_nI (by omega) (by decide)
    · rw [e3, e]; exact vp_in_nI (by omega) (by decide)
    · rw [e3, e, e1]; exact vp_in_nI (by omega) (by decide)
    · rw [e3, e, e2]; exact vp_in_nI (by omega) (by decide)
    · rw [e3, e, e1, e2, nI_clamp (by omega), nI_clamp (by omega), nI_clamp (by omega), nI_clamp (by omega), nI_1]
      have s1 : sdS I2 (am_u I 198 (92 + 3 * k) (I 193 k)) f s a1 (3 * k + 1) 0 0 := sdS_u hI (by rw [fin_o (by omega), hI.1 193 (by decide)]; exact hs.2.2.2.2.2.1 k (by omega)) (fun i hi => by unfold sdD; omega)
      have s2 : sdS I2 (am_u (am_u I 198 (92 + 3 * k) (I 193 k)) 198 (92 + 3 * k + 1) (-1)) f s a1 (3 * k + 2) 0 0 := sdS_u s1 (by rw [fin_o (by omega), w.2.2.1]) (fun i hi => by unfold sdD; omega)
      refine ih (k + 1) _ (by omega) (sdS_u s2 ?_ (fun i hi => ?_))
      · rw [fin_o (by omega), w.2.2.2]
      · unfold sdD; omega
theorem lp_n100 {C : am_C} {L : am_L} {I2 : am_I} {f : Nat → Int32} {s : NS} {j : Nat} (hj : j < s.n) (hn : s.n ≤ 16) (hs : nsM I2 s) (w8 : ∀ j, j < s.n → s.g (7 + 5 * j + 4) = 0)
    (h : ∀ I' y, sdS I2 I' f s (5 * (j + 1)) 0 0 0 → am_W am_all C e_Model_net Q 90 [.ref 186, .int (nI (j + 1)), y] [] I' L (gg Lx ρ) 0 0) : ∀ F k I, k + F = 4 → sdS I2 I f s (5 * j + k) 0 0 0 → am_W am_all C e_Model_net Q 100 [.ref 186, .int (nI j), .int (nI k)] [] I L (gg Lx ρ) 0 0 := by
  have e5 : (5 : Int32) * nI j = nI (5 * j) := pk_mul 5 j
  have e4 : (4 : Int32) * nI j = nI (4 * j) := pk_mul 4 j
  have e7 : (7 : Int32) + nI (5 * j) = nI (7 + 5 * j) := nI_add 7 _
  have e74 : nI (7 + 5 * j) + 4 = nI (7 + 5 * j + 4) := nI_add _ 4
  intro F
  induction F with
  | zero =>
    intro k I hk hI
    have hk : k = 4 := by omega
    subst hk
    refine sz_Model_net_100 _ _ (fun _ => ?_) (fun _ => ?_) (fun z => absurd z (by decide)) (fun z => absurd z (by decide)) (fun z => absurd z (by decide))
    · rw [e5, e7, e74]; exact vp_in_nI (by omega) (by decide)
    · rw [e5, e7, e74, nI_clamp (by omega), nI_1]
      refine h _ _ (sdS_u hI ?_ (fun i hi => ?_))
      · rw [fin_o (by omega), w8 j hj]
      · unfold sdD; omega
  | succ F ih =>
    intro k I hk hI
    have ek : nI (7 + 5 * j) + nI k = nI (7 + 5 * j + k) := nI_add _ k
    have ek4 : nI (4 * j) + nI k = nI (4 * j + k) := nI_add _ k
    refine sz_Model_net_100 _ _ (fun z => absurd (nI_lt (b := 4) (by omega) (by decide)) z) (fun z => absurd (nI_lt (b := 4) (by omega) (by decide)) z) (fun _ => ?_) (fun _ => ?_) (fun _ => ?_)
    · rw [e4, ek4]; exact vp_in_nI (by omega) (by decide)
    · rw [e5, e7, ek]; exact vp_in_nI (by omega) (by decide)
    · rw [e5, e7, ek, e4, ek4, nI_clamp (by omega), nI_clamp (by omega), nI_1]
      refine ih (k + 1) _ (by omega) (sdS_u hI ?_ (fun i hi => ?_))
      · rw [fin_o (by omega), hI.1 192 (by decide)]; exact hs.2.2.2.2.1 j hj k (by omega)
      · unfold sdD; omega
theorem lp_n90 {C : am_C} {L : am_L} {I2 : am_I} {f : Nat → Int32} {s : NS} {c : Nat} (hs : nsM I2 s) (hw : nsW f c s) (g136 : ∀ r, r < 16 → s.g (136 + r) = -1)
    (h : ∀ I', sdS I2 I' f s (5 * s.n) (3 * s.C) (4 * s.m) 16 → Q (some (.int (nI s.n))) I' L (gg Lx ρ)) : ∀ F j I y, j + F = s.n → sdS I2 I f s (5 * j) 0 0 0 → am_W am_all C e_Model_net Q 90 [.ref 186, .int (nI j), y] [] I L (gg Lx ρ) 0 0 := by
  obtain ⟨w1, w2, w3, w4, w5, w6, w7, w8, w9, w10, w11, w12⟩ := hw
  intro F
  induction F with
  | zero =>
    intro j I y hj hI
    have hj : j = s.n := by omega
    subst hj
    have e8 : I 186 8 = nI s.n := by rw [hI.1 186 (by decide)]; exact hs.2.1
    refine sz_Model_net_90 _ _ (fun _ => ?_) (fun z => ?_)
    · exact lp_n156 w5 w6 g136 hs w9 h s.C 0 I (by omega) hI
    · rw [e8] at z; exact absurd z (nI_nlt (Nat.le_refl _) (by omega))
  | succ F ih =>
    intro j I y hj hI
    have e8 : I 186 8 = nI s.n := by rw [hI.1 186 (by decide)]; exact hs.2.1
    refine sz_Model_net_90 _ _ (fun z => ?_) (fun _ => ?_)
    · rw [e8] at z; exact absurd (nI_lt (by omega) (by omega)) z
    · exact lp_n100 (j := j) (by omega) w4 hs w8 (fun I' y' hI' => ih (j + 1) I' y' (by omega) hI') 4 0 I (by omega) hI
abbrev nF : List Nat := [1, 7, 8, 9, 10, 14, 15, 16, 17, 18, 20]
theorem sp_Model_net {I : am_I} {L : am_L} {B : Nat → Nat} {t : Nat} (hT : tpM I B t)
    (h0 : ¬ (pNt (I 198) B t).1 = 0 → ∀ I', frm [189, 192, 193, 194] nF I I' → I' 186 1 = 0 → Q (some (.int (-2 - nI (pNt (I 198) B t).1))) I' L (gg Lx ρ))
    (h1 : (pNt (I 198) B t).1 = 0 → ∀ I', frm [189, 192, 193, 194, 198] nF I I' → I' 186 1 = 0 → (∀ i, i < 152 → I' 198 i = fin (pNt (I 198) B t).2 i) → Q (some (.int (nI (pNt (I 198) B t).2.n))) I' L (gg Lx ρ)) : am_run (d + 8) m_Model_net [.ref 186] I L (gg Lx ρ) Q := by
  have hB := fun i hi => (hT.2.2 i hi).2
  have ht := hT.2.1
  refine run_in rfl rfl ⟨rfl, rfl⟩ (sz_Model_net_0 ?_)
  have e17 : (am_u (am_u (am_u (am_u (am_u I 186 17 6) 186 7 0) 186 8 0) 186 9 0) 186 10 0) 186 17 = 6 := by
    rw [am_u_nk (by decide), am_u_nk (by decide), am_u_nk (by decide), am_u_nk (by decide), am_u_at]
  refine run_in (d := d + 6) rfl rfl ⟨rfl, rfl⟩ (sy_Model_readsAll_0 ?_ ?_)
  · rw [e17]; exact vp_in_nI (n := 6) (by decide) (by decide)
  · rw [e17]
    have gA : frm [189, 192, 193, 194] nF I (am_u (am_u (am_u (am_u (am_u (am_u (am_u (am_u (am_u (am_u I 186 17 6) 186 7 0) 186 8 0) 186 9 0) 186 10 0) 189 (Int32.toNatClampNeg 6) 0) 186 20 0) 186 14 0) 186 15 0) 186 18 0) := ((((((((((frm.rf.uf (by decide)).uf (by decide)).uf (by decide)).uf (by decide)).uf (by decide)).u (by decide) (by decide)).uf (by decide)).uf (by decide)).uf (by decide)).uf (by decide))
    have gB : frm [189, 192, 193, 194] [7, 8, 9, 10, 14, 15, 16, 17, 18, 20] I (am_u (am_u (am_u (am_u (am_u (am_u (am_u (am_u (am_u (am_u I 186 17 6) 186 7 0) 186 8 0) 186 9 0) 186 10 0) 189 (Int32.toNatClampNeg 6) 0) 186 20 0) 186 14 0) 186 15 0) 186 18 0) := ((((((((((frm.rf.uf (by decide)).uf (by decide)).uf (by decide)).uf (by decide)).uf (by decide)).u (by decide) (by decide)).uf (by decide)).uf (by decide)).uf (by decide)).uf (by decide))
    have hT0 := tpM_fr gB (by decide) (by decide) hT
    refine sp_netClause (d := d) (f := I 198) (c := 0) (p := 0) (s := (0, 0, 0, 0, g0 (I 198))) hT0 (Nat.zero_le _) ⟨?_, ?_⟩ ?_ ?_ ⟨?_, ?_, ?_, ?_, fun j hj => absurd hj (Nat.not_lt_zero j), fun j hj => absurd hj (Nat.not_lt_zero j), fun j hj => absurd hj (Nat.not_lt_zero j)⟩ nsW_0 (by omega) (fun I1 g1 e1 o1 => ?_)
    · rw [am_u_nk (by decide), am_u_nk (by decide), am_u_at]; rfl
    · rw [am_u_nk (by decide), am_u_at]; rfl
    · rw [am_u_nk (by decide), am_u_nk (by decide), am_u_nk (by decide), am_u_nk (by decide), am_u_ne (by decide)]; exact e17
    · rw [am_u_nk (by decide), am_u_nk (by decide), am_u_nk (by decide), am_u_at]; rfl
    · rw [am_u_nk (by decide), am_u_nk (by decide), am_u_nk (by decide), am_u_nk (by decide), am_u_ne (by decide), am_u_nk (by decide), am_u_nk (by decide), am_u_nk (by decide), am_u_at]; rfl
    · rw [am_u_nk (by decide), am_u_nk (by decide), am_u_nk (by decide), am_u_nk (by decide), am_u_ne (by decide), am_u_nk (by decide), am_u_nk (by decide), am_u_at]; rfl
    · rw [am_u_nk (by decide), am_u_nk (by decide), am_u_nk (by decide), am_u_nk (by decide), am_u_ne (by decide), am_u_nk (by decide), am_u_at]; rfl
    · rw [am_u_nk (by decide), am_u_nk (by decide), am_u_nk (by decide), am_u_nk (by decide), am_u_ne (by decide), am_u_at]; rfl
    · refine sy_Model_readsAll_34 _ _ ?_
      have i17 : I1 186 17 = 6 := by
        rw [g1.2 17 (by decide), am_u_nk (by decide), am_u_nk (by decide), am_u_nk (by decide), am_u_nk (by decide), am_u_ne (by decide)]; exact e17
      refine lp_nall (I0 := I1) 41 0 0 I1 (0, 0, 0, 0, g0 (I 198)) (by omega) (by omega) (Nat.zero_le _) (g1.T hT0) i17 nsW_0 frT.rf (fun I2 g2 e2 o2 => ?_) e1 o1
      have e2 : I2 186 15 = nI (pNt (I 198) B t).1 := e2
      have o2 : (pNt (I 198) B t).1 = 0 → nsM I2 (pNt (I 198) B t).2 := o2
      have hlt : (pNt (I 198) B t).1 < 4000 := ntL_lt hB ht 41 0 0 _ (Nat.zero_le _)
      have g3 : frm [189, 192, 193, 194] nF I (am_u I2 186 1 0) := ((gA.tr ((g1.tr g2).w (by decide) (by decide))).uf (by decide))
      show am_W am_all _ e_Model_net Q 30 [.ref 186, .null, .null] [.int (bI ((pNt (I 198) B t).1 = 0))] (am_u I2 186 1 0) L (gg Lx ρ) 0 0
      refine sz_Model_net_30 _ _ _ (fun z => ?_) (fun z => ?_)
      · have z := bI1 z
        have hs : nsM (am_u I2 186 1 0) (pNt (I 198) B t).2 := nsM_F (F := [1]) (frm.rf.uf (by simp)) (by decide) (o2 z)
        obtain ⟨c', hw⟩ := nsW_tL (f := I 198) hB ht 41 0 0 _ (Nat.zero_le _) nsW_0 z
        have hw : nsW (I 198) (c' + 1) (pNt (I 198) B t).2 := hw
        obtain ⟨w1, w2, w3, w4, w5, w6, w7, w8, w9, w10, w11, w12⟩ := id hw
        have g136 : ∀ r, r < 16 → (pNt (I 198) B t).2.g (136 + r) = -1 := fun r hr => by
          rw [w12 _ (by omega) (by omega)]; unfold g0; rw [if_neg (by omega), if_pos (by omega)]
        have e198 : (am_u I2 186 1 0) 198 = I 198 := by rw [am_u_ne (by decide), g2.1 198 (by decide) (by decide), g1.1 198 (by decide) (by decide)]; exact gA.1 198 (by decide) (by decide)
        rw [hs.1, hs.2.1, hs.2.2.1, hs.2.2.2.1]
        refine lp_n90 (f := I 198) hs hw g136 (fun I3 h3 => h1 z I3 ?_ ?_ (fun i hi => ?_)) (pNt (I 198) B t).2.n 0 _ _ (by omega) ⟨fun a z => ?_, fun i hi => ⟨fun y => ?_, fun y => ?_⟩⟩
        · refine ⟨fun a z1 z2 => ?_, fun k hk => ?_⟩
          · have z3 : a ≠ 198 := fun q => z2 (by rw [q]; decide)
            rw [h3.1 a z3]; exact g3.1 a z1 (fun q => z2 (by revert q; simp only [List.mem_cons, List.not_mem_nil, or_false]; omega))
          · rw [h3.1 186 (by decide)]; exact g3.2 k hk
        · rw [h3.1 186 (by decide), am_u_at]
        · by_cases y : sdD (5 * (pNt (I 198) B t).2.n) (3 * (pNt (I 198) B t).2.C) (4 * (pNt (I 198) B t).2.m) 16 i
          · exact (h3.2 i hi).1 y
          · rw [(h3.2 i hi).2 y]
            unfold sdD at y
            rw [fin_o (by omega), w12 i (by omega) (by omega)]
            unfold g0; rw [if_neg (by omega), if_neg (by omega)]
        · rw [am_u_ne z, am_u_ne z, am_u_ne z, am_u_ne z, am_u_ne z]
        · have y5 : i < 5 := by unfold sdD at y; omega
          rcases (show i = 0 ∨ i = 1 ∨ i = 2 ∨ i = 3 ∨ i = 4 by omega) with k | k | k | k | k
          · subst k
            rw [am_u_nk (by decide), am_u_nk (by decide), am_u_nk (by decide), am_u_nk (by decide), am_u_at]; rfl
          · subst k
            rw [am_u_nk (by decide), am_u_nk (by decide), am_u_nk (by decide), am_u_at]; rfl
          · subst k
            rw [am_u_nk (by decide), am_u_nk (by decide), am_u_at]; rfl
          · subst k
            rw [am_u_nk (by decide), am_u_at]; rfl
          · subst k
            rw [am_u_at, fin_o (by decide), w12 4 (by decide) (Or.inl (by decide))]; rfl
        · unfold sdD at y
          rw [am_u_nk (by omega), am_u_nk (by omega), am_u_nk (by omega), am_u_nk (by omega), am_u_nk (by omega), e198]
      · have z := bI0 z
        have e15 : am_u I2 186 1 0 186 15 = nI (pNt (I 198) B t).1 := by rw [am_u_nk (by decide)]; exact e2
        rw [e15]
        exact h0 z _ g3 am_u_at
end NPQ
