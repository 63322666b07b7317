/-! ===== weeks of the reference; soonest and ways ===== -/
section MWK
variable {d Lx : Nat} {ρ : List (Nat × Nat)} {Q : am_Q} {Rs : List (List (Nat × List Nat))}
theorem lp_keeps {I : am_I} {L : am_L} {C : am_C} (h : ∀ I', frm [201] [] I I' → (∀ k, k < 152 → I' 201 k = I 198 k) → Q none I' L (gg Lx ρ)) : ∀ m i I', i + m = 152 → frm [201] [] I I' → (∀ k, k < i → I' 201 k = I 198 k) → am_W am_all C e_Model_keeps Q 2 [.ref 186, .int (nI i)] [] I' L (gg Lx ρ) 0 0
  | 0, i, I', e, hf, hv => by
    have e : i = 152 := e
    subst e
    exact sz_Model_keeps_2 _ (fun _ => h I' hf hv) (fun z => absurd z (by decide)) (fun z => absurd z (by decide))
  | m + 1, i, I', e, hf, hv => by
    refine sz_Model_keeps_2 _ (fun z => absurd (nI_lt (b := 152) (by omega) (by decide)) z) (fun _ => vp_in_nI (by omega) (by decide)) (fun _ => ?_)
    rw [nI_clamp (by omega), nI_1]
    refine lp_keeps h m (i + 1) _ (by omega) (hf.u (by simp) (by decide)) (fun k hk => ?_)
    by_cases z : k = i
    · subst z; rw [am_u_at, hf.1 198 (by decide) (by simp)]
    · rw [am_u_nk z]; exact hv k (by omega)
theorem sp_Model_keeps {I : am_I} {L : am_L} (h : ∀ I', frm [201] [] I I' → (∀ k, k < 152 → I' 201 k = I 198 k) → Q none I' L (gg Lx ρ)) : am_run (d + 1) m_Model_keeps [.ref 186] I L (gg Lx ρ) Q :=
  run_in rfl rfl ⟨rfl, rfl⟩ (sz_Model_keeps_0 (lp_keeps h 152 0 I (by omega) frm.rf (fun k hk => absurd hk (Nat.not_lt_zero k))))
theorem lp_putsBack {I : am_I} {L : am_L} {C : am_C} {f : Nat → Int32} (h1 : ∀ k, k < 152 → I 201 k = f k) (h2 : ∀ k, 152 ≤ k → I 198 k = f k) (h : ∀ I', frm [198] [] I I' → I' 198 = f → Q none I' L (gg Lx ρ)) : ∀ m i I', i + m = 152 → frm [198] [] I I' → (∀ k, k < i → I' 198 k = f k) → (∀ k, 152 ≤ k → I' 198 k = f k) → am_W am_all C e_Model_putsBack Q 2 [.ref 186, .int (nI i)] [] I' L (gg Lx ρ) 0 0
  | 0, i, I', e, hf, hv, hv2 => by
    have e : i = 152 := e
    subst e
    refine sz_Model_putsBack_2 _ (fun _ => h I' hf (funext fun k => ?_)) (fun z => absurd z (by decide)) (fun z => absurd z (by decide))
    by_cases z : k < 152
    · exact hv k z
    · exact hv2 k (by omega)
  | m + 1, i, I', e, hf, hv, hv2 => by
    refine sz_Model_putsBack_2 _ (fun z => absurd (nI_lt (b := 152) (by omega) (by decide)) z) (fun _ => vp_in_nI (by omega) (by decide)) (fun _ => ?_)
    rw [nI_clamp (by omega), nI_1]
    refine lp_putsBack h1 h2 h m (i + 1) _ (by omega) (hf.u (by simp) (by decide)) (fun k hk => ?_) (fun k hk => ?_)
    · by_cases z : k = i
      · subst z; rw [am_u_at, hf.1 201 (by decide) (by simp)]; exact h1 k (by omega)
      · rw [am_u_nk z]; exact hv k (by omega)
    · rw [am_u_nk (by omega)]; exact hv2 k hk
theorem sp_Model_putsBack {I : am_I} {L : am_L} {f : Nat → Int32} (h1 : ∀ k, k < 152 → I 201 k = f k) (h2 : ∀ k, 152 ≤ k → I 198 k = f k) (h : ∀ I', frm [198] [] I I' → I' 198 = f → Q none I' L (gg Lx ρ)) : am_run (d + 1) m_Model_putsBack [.ref 186] I L (gg Lx ρ) Q :=
  run_in rfl rfl ⟨rfl, rfl⟩ (sz_Model_putsBack_0 (lp_putsBack h1 h2 h 152 0 I (by omega) frm.rf (fun k hk => absurd hk (Nat.not_lt_zero k)) h2))
theorem nI_add0 (x : Int32) : x + 0 = x := Int32.add_zero x
theorem lp_mwkC {I : am_I} {f : Nat → Int32} {P n C m N : Nat} {x1 x3 x6 : Int32} (hwS : wfS Rs f P n C m) (hP1 : 1 ≤ P) (hN : N ≤ 30) (hw : wfRs Rs) (hM : RCm I Rs) (h201 : ∀ k, k < 152 → I 201 k = f k) {K : Nat × (Nat → Int32) × Nat × Nat → Prop}
    (h : ∀ I' L' (x7 x8 x9 x10 x11 : Value) (s : Nat × (Nat → Int32) × Nat × Nat), frm [198, 199, 200] [24, 29] I I' → I' 198 = f → L' 186 45 = lN s.1 → s.1 < 2147483648 → K s → am_W am_all (am_run (d + 9)) e_Model_weeks Q 69 [.ref 186, .int x1, .int (nI N), .int x3, .int (nI s.2.2.1), .int (nI s.2.2.2), .int (x6 + 1), x7, x8, x9, x10, x11] [] I' L' (gg Lx ρ) 0 0) : ∀ k c I' L' (x8 x9 x10 x11 : Value) (s : Nat × (Nat → Int32) × Nat × Nat), c + k = N → frm [198, 199, 200] [24, 29] I I' → I' 198 = s.2.1 → L' 186 45 = lN s.1 → s.1 < 2147483648 → wfN s.2.1 n → tal f s.2.1 → K (wkC Rs n P k s) → am_W am_all (am_run (d + 9)) e_Model_weeks Q 78 [.ref 186, .int x1, .int (nI N), .int x3, .int (nI s.2.2.1), .int (nI s.2.2.2), .int x6, .int (nI c), x8, x9, x10, x11] [] I' L' (gg Lx ρ) 0 0
  | 0, c, I', L', x8, x9, x10, x11, s, e, hf, h198, hX, hXl, hwn, ht, hK => by
    have e : c = N := e
    subst e
    have hno : ¬ nI c < nI c := nI_nlt (Nat.le_refl _) (by omega)
    refine sy_Model_weeks_78 (d := d + 8) _ _ _ _ _ _ _ _ _ _ _ (fun _ => ?_) (fun z => absurd z hno) (fun z => absurd z hno) (fun z => absurd z hno) (fun z => absurd z hno)
    refine sp_Model_putsBack (d := d + 8) (f := f) (fun k hk => by rw [hf.1 201 (by decide) (by simp)]; exact h201 k hk) (fun k hk => by rw [h198]; exact ht k (by omega)) (fun I2 f2 e2 => ?_)
    exact sy_Model_weeks_183 (d := d + 8) _ _ _ _ _ _ _ _ _ _ _ (h I2 L' _ _ _ _ _ s (hf.tr (f2.w (by simp) (by simp))) e2 hX hXl hK)
  | k + 1, c, I', L', x8, x9, x10, x11, s, e, hf, h198, hX, hXl, hwn, ht, hK => by
    have hP := hwS.P
    obtain ⟨hn1, hn16, hwf⟩ := hwS.n
    have d1 := dr_lt s.1
    have d2 := dr_lt (dr s.1)
    have d3 := dr_lt (dr (dr s.1))
    have e0 : I' 198 0 = nI P := by rw [h198, ht 0 (by omega)]; exact hP.1
    have q1 : mDr (L' 186 45) = lN (dr s.1) := by rw [hX, mDr_n hXl]
    have q2 : mDr (mDr (L' 186 45)) = lN (dr (dr s.1)) := by rw [q1, mDr_n d1]
    have q3 : mDr (mDr (mDr (L' 186 45))) = lN (dr (dr (dr s.1))) := by rw [q2, mDr_n d2]
    have eK : (1 : Int32) + mDv (L' 186 45) 7 = nI (wkK s.1) := by
      rw [hX, show (7 : Int32) = nI 7 from rfl, mDv_n hXl (by decide) (by decide), show (1 : Int32) = nI 1 from rfl, nI_add]; rfl
    have eF : mDv (mDr (L' 186 45)) (I' 198 0) = nI (wkF P s.1) := by rw [q1, e0, mDv_n d1 (by omega) (by omega)]; rfl
    have eT : mDv (mDr (mDr (L' 186 45))) (I' 198 0) = nI (wkT P s.1) := by rw [q2, e0, mDv_n d2 (by omega) (by omega)]; rfl
    have hF : wkF P s.1 < P := Nat.mod_lt _ (by omega)
    have hT : wkT P s.1 < P := Nat.mod_lt _ (by omega)
    have hK7 : wkK s.1 ≤ 7 := by have := Nat.mod_lt (dr s.1 / 65536) (show 7 > 0 by decide); unfold wkK; omega
    have hK1 : 1 ≤ wkK s.1 := by unfold wkK; omega
    have hFT : nI (wkF P s.1) = nI (wkT P s.1) ↔ wkF P s.1 = wkT P s.1 := nI_eq (by omega) (by omega)
    have hyes : nI c < nI N := nI_lt (by omega) (by omega)
    have ne7 : ¬ Int32.toInt64 7 = 0 := by decide
    have neP : ¬ Int32.toInt64 (I' 198 0) = 0 := by rw [e0, nI_l (by omega)]; exact fun z => by have := (lN_eq (b := 0) (by omega) (by decide)).mp z; omega
    unfold wkC at hK
    unfold wkS at hK
    refine sy_Model_weeks_78 (d := d + 8) _ _ _ _ _ _ _ _ _ _ _ (fun z => absurd hyes z) (fun _ => ne7) (fun _ => neP) (fun _ z => ?_) (fun _ z => ?_)
    · rw [eF, eT] at z
      have hne : ¬ wkF P s.1 = wkT P s.1 := fun y => z (hFT.mpr y)
      rw [if_neg hne] at hK
      rw [eF, eT, eK, q3, q2, q1]
      generalize hLL : am_u (am_u (am_u L' 186 45 (lN (dr s.1))) 186 45 (lN (dr (dr s.1)))) 186 45 (lN (dr (dr (dr s.1)))) = LL
      have eL : LL 186 45 = lN (dr (dr (dr s.1))) := by rw [← hLL, am_u_at]
      refine sp_Model_goes (d := d + 1) (Rs := Rs) (by rw [h198, ht 1 (by omega)]; exact hn1) (by rw [h198]; exact hwn) rfl hK1 hK7 (by rw [h198, ht 6 (by omega)]; exact hwS.fo) hw (hf.M (by simp) (by simp) hM) (by omega) (by omega) (fun hlt I3 L3 f3 l3 e3 => ?_) (fun hge I3 L3 f3 l3 => ?_)
      · rw [h198] at hlt e3
        rw [if_pos hlt] at hK
        rw [h198]
        refine sy_Model_weeks_140 (d := d + 8) _ _ _ _ _ _ _ _ _ _ _ _ (fun _ => ?_) (fun y => absurd y (nI_pos (by omega)))
        rw [nI_1, nI_1, nI_add]
        exact lp_mwkC hwS hP1 hN hw hM h201 h k (c + 1) I3 L3 _ _ _ _ (dr (dr (dr s.1)), pG Rs s.2.1 n (nI (wkK s.1)) (wkT P s.1) (wkF P s.1), s.2.2.1 + 1, s.2.2.2 + pD Rs s.2.1 n (nI (wkK s.1)) (wkT P s.1) (wkF P s.1)) (by omega) (hf.tr f3) e3 (by rw [l3 186 (by decide) (by decide)]; exact eL) d3 (wfN_pG hwn rfl hK7) (ht.tr (tal_pG hwn.1)) hK
      · rw [h198] at hge
        rw [if_neg hge] at hK
        refine sy_Model_weeks_140 (d := d + 8) _ _ _ _ _ _ _ _ _ _ _ _ (fun y => absurd (by decide) y) (fun _ => ?_)
        rw [nI_1, nI_add0, nI_add0]
        exact lp_mwkC hwS hP1 hN hw hM h201 h k (c + 1) I3 L3 _ _ _ _ (dr (dr (dr s.1)), s.2) (by omega) (hf.tr (f3.w (by simp) (by simp))) ((f3.1 198 (by decide) (by simp)).trans h198) (by rw [l3 186 (by decide) (by decide)]; exact eL) d3 hwn ht hK
    · rw [eF, eT] at z
      rw [if_pos (hFT.mp z)] at hK
      rw [nI_1, nI_add0, nI_add0]
      exact lp_mwkC hwS hP1 hN hw hM h201 h k (c + 1) I' _ _ _ _ _ (dr (dr (dr s.1)), s.2) (by omega) hf h198 (by rw [am_u_at, q3]) d3 hwn ht hK
theorem lp_mwkW {I : am_I} {f : Nat → Int32} {P n C m N M : Nat} {x3 : Int32} (hwS : wfS Rs f P n C m) (hP1 : 1 ≤ P) (hN : N ≤ 30) (hM20 : M ≤ 20) (hw : wfRs Rs) (hM : RCm I Rs) (h201 : ∀ k, k < 152 → I 201 k = f k) {K : Nat × Nat × Nat → Prop}
    (h : ∀ I' L' (s : Nat × Nat × Nat), frm [198, 199, 200] [24, 29] I I' → I' 198 = f → K s → Q (some (.int (if x3 = 0 then nI s.2.1 else nI s.2.2))) I' L' (gg Lx ρ)) : ∀ k w I' L' (x7 x8 x9 x10 x11 : Value) (s : Nat × Nat × Nat), w + k = M → frm [198, 199, 200] [24, 29] I I' → I' 198 = f → L' 186 45 = lN s.1 → s.1 < 2147483648 → K (wkW Rs n P N f k s) → am_W am_all (am_run (d + 9)) e_Model_weeks Q 69 [.ref 186, .int (nI M), .int (nI N), .int x3, .int (nI s.2.1), .int (nI s.2.2), .int (nI w), x7, x8, x9, x10, x11] [] I' L' (gg Lx ρ) 0 0
  | 0, w, I', L', x7, x8, x9, x10, x11, s, e, hf, h198, hX, hXl, hK => by
    have e : w = M := e
    subst e
    have hno : ¬ nI w < nI w := nI_nlt (Nat.le_refl _) (by omega)
    have h := h I' L' s hf h198 hK
    refine sy_Model_weeks_69 (d := d + 8) _ _ _ _ _ _ _ _ _ _ _ (fun _ z => ?_) (fun _ z => ?_) (fun z => absurd z hno)
    · rw [if_neg z] at h; exact h
    · rw [if_pos z] at h; exact h
  | k + 1, w, I', L', x7, x8, x9, x10, x11, s, e, hf, h198, hX, hXl, hK => by
    have hyes : nI w < nI M := nI_lt (by omega) (by omega)
    obtain ⟨hn1, hn16, hwf⟩ := hwS.n
    refine sy_Model_weeks_69 (d := d + 8) _ _ _ _ _ _ _ _ _ _ _ (fun z => absurd hyes z) (fun z => absurd hyes z) (fun _ => ?_)
    unfold wkW at hK
    refine lp_mwkC (d := d) (K := fun s2 => K (wkW Rs n P N f k (s2.1, s2.2.2))) hwS hP1 hN hw hM h201 (fun I2 L2 y7 y8 y9 y10 y11 s2 f2 e2 X2 Xl2 k2 => ?_) N 0 I' L' _ _ _ _ (s.1, f, s.2) (by omega) hf h198 hX hXl hwf tal.rf hK
    rw [nI_1]
    exact lp_mwkW hwS hP1 hN hM20 hw hM h201 h k (w + 1) I2 L2 _ _ _ _ _ (s2.1, s2.2.2) (by omega) f2 e2 X2 Xl2 k2
theorem sp_Model_weeks {I : am_I} {L : am_L} {P n C m : Nat} {a b w : Int32} (hwS : wfS Rs (I 198) P n C m) (hw : wfRs Rs) (hM : RCm I Rs)
    (h : ∀ I' L', frB n I I' → Q (some (.int (pWk Rs (I 198) P n a b w))) I' L' (gg Lx ρ)) : am_run (d + 10) m_Model_weeks [.ref 186, .int a, .int b, .int w] I L (gg Lx ρ) Q := by
  have hP := hwS.P
  obtain ⟨hn1, hn16, hwf⟩ := hwS.n
  have i1 : mIn (Int32.toInt64 a) 1 20 ↔ (¬ a < 1 ∧ ¬ 20 < a) := mIn_i (a := 1) (b := 20)
  have i2 : mIn (Int32.toInt64 b) 1 30 ↔ (¬ b < 1 ∧ ¬ 30 < b) := mIn_i (a := 1) (b := 30)
  have i3 : mIn (Int32.toInt64 w) 0 1 ↔ (¬ w < 0 ∧ ¬ 1 < w) := mIn_i (a := 0) (b := 1)
  unfold pWk at h
  refine run_in rfl rfl ⟨rfl, rfl⟩ (sy_Model_weeks_0 (d := d + 8) _ _ _ (fun z => ?_) (fun _ z => ?_) (fun _ _ z => ?_) (fun z z1 z2 z3 => ?_) (fun _ _ _ z => ?_))
  · rw [hP.1] at z
    rw [if_neg (fun y => absurd z (nI_ne0 y.1 (by omega)))] at h; exact h I L frB.rf
  · rw [if_neg (fun y => z (i1.mpr ⟨y.2.1, y.2.2.1⟩))] at h; exact h I L frB.rf
  · rw [if_neg (fun y => z (i2.mpr ⟨y.2.2.2.1, y.2.2.2.2.1⟩))] at h; exact h I L frB.rf
  · rw [hP.1] at z
    have hP1 : 1 ≤ P := Nat.pos_of_ne_zero fun y => z (by rw [y]; rfl)
    have z1 := i1.mp z1
    have z2 := i2.mp z2
    have z3 := i3.mp z3
    rw [if_pos ⟨hP1, z1.1, z1.2, z2.1, z2.2, z3.1, z3.2⟩] at h
    obtain ⟨M, m1, m20, rfl⟩ := nI_btw (a := 1) (b := 20) rfl rfl (by decide) (by decide) z1.1 z1.2
    obtain ⟨N, n1, n30, rfl⟩ := nI_btw (a := 1) (b := 30) rfl rfl (by decide) (by decide) z2.1 z2.2
    rw [nI_clamp (by omega), nI_clamp (by omega)] at h
    obtain ⟨X, hX, eX⟩ := nI_of hwS.x
    rw [eX, nI_clamp hX] at h
    rw [eX, nI_l hX]
    refine sp_Model_keeps (d := d + 8) (fun I1 f1 v1 => ?_)
    have e198 : I1 198 = I 198 := f1.1 198 (by decide) (by simp)
    refine sy_Model_weeks_66 (d := d + 8) _ _ _ _ _ _ _ _ _ _ _ ?_
    refine lp_mwkW (d := d) (Rs := Rs) (I := I1) (K := fun s => s = wkW Rs n P N (I 198) M (X, 0, 0)) hwS hP1 n30 m20 hw (f1.M (by simp) (by simp) hM) v1 (fun I' L' s f2 e2 hk => ?_) M 0 I1 _ _ _ _ _ _ (X, 0, 0) (by omega) frm.rf e198 am_u_at (by omega) rfl
    subst hk
    have f01 : frm [198, 199, 200, 201] [24, 29] I I' := (f1.w (by simp) (by simp)).tr (f2.w (by simp) (by simp))
    exact h I' L' ⟨fun a z y => f01.1 a z (by simp; omega), fun k hk => f01.2 k (by simp; omega), fun i hi => by rw [e2]⟩
  · rw [if_neg (fun y => z (i3.mpr ⟨y.2.2.2.2.2.1, y.2.2.2.2.2.2⟩))] at h; exact h I L frB.rf
end MWK
