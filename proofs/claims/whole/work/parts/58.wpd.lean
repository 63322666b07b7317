/-! ===== wiped ===== -/
def wCo (f : Nat → Int32) (kk j : Nat) : Nat := if rL f j = 0 ∨ rL f j = kk then rD f j else 1000 + rD f j
def tt1 : Nat → Bool := fun _ => true
theorem wCo_b {f : Nat → Int32} {n kk j : Nat} (hwf : wfN f n) (hj : j < n) : 1 ≤ wCo f kk j ∧ wCo f kk j ≤ 2000 := by
  obtain ⟨w1, w2, w3, w4, w5, w6, w7, w8, w9, w10⟩ := hwf.2 j hj
  unfold wCo
  split <;> omega
def pWp (f : Nat → Int32) (P n : Nat) (k fr to w : Int32) : Int32 :=
  if asks P k fr to ∧ ¬ w < 0 ∧ ¬ 1 < w then (if dst (rA f) (rB f) (wCo f k.toNatClampNeg) tt1 tt1 n to.toNatClampNeg fr.toNatClampNeg < 1000000 then (if w = 0 then nI (dst (rA f) (rB f) (wCo f k.toNatClampNeg) tt1 tt1 n to.toNatClampNeg fr.toNatClampNeg / 1000) else nI (dst (rA f) (rB f) (wCo f k.toNatClampNeg) tt1 tt1 n to.toNatClampNeg fr.toNatClampNeg % 1000)) else -2) else -1
section WPD
variable {d Lx : Nat} {ρ : List (Nat × Nat)} {Q : am_Q} {Rs : List (List (Nat × List Nat))}
theorem lp_law {I : am_I} {L : am_L} {C : am_C} {r n kk : Nat} {f : Nat → Int32} (hr : r ∈ rdl) (hR : rdR I r f n) (hwf : wfN f n) (hk : kk ≤ 7)
    (h : ∀ I', frc [26, 27, 28] I I' → lkd I' n tt1 tt1 (wCo f kk) → Q none I' L (gg Lx ρ)) : ∀ m i I' (x4 : Value), i + m = n → frc [26, 27, 28] I I' → lkd I' i tt1 tt1 (wCo f kk) → am_W am_all C e_Finder_lookAsIfWiped Q 2 [.ref 25, .ref r, .int (nI kk), .int (nI i), x4] [] I' L (gg Lx ρ) 0 0
  | 0, i, I', x4, e, hf, hv => by
    have e : i = n := e
    subst e
    have hno : ¬ nI i < I' r 6 := by rw [hf r (by have := rdl_lt r hr; simp; omega), hR.2.1]; exact nI_nlt (Nat.le_refl _) (by have := hwf.1; omega)
    exact sz_Finder_lookAsIfWiped_2 r _ _ _ hr (fun _ => h I' hf hv) (fun z => absurd z hno) (fun z => absurd z hno) (fun z => absurd z hno) (fun z => absurd z hno) (fun z => absurd z hno)
  | m + 1, i, I', x4, e, hf, hv => by
    have hn := hwf.1
    have hrl := rdl_lt r hr
    have hR' : rdR I' r f n := rdR_fr (fun a h1 h2 => hf a (by simp; omega)) hR
    obtain ⟨w1, w2, w3, w4, w5, w6, w7, w8, w9, w10⟩ := hwf.2 i (by omega)
    obtain ⟨q1, q2, q3, q4, q5⟩ := hR'.2.2.2.2 i (by omega)
    have ei : (nI i).toNatClampNeg = i := nI_clamp (by omega)
    have el : I' (r + 4) (nI i).toNatClampNeg = nI (rL f i) := by rw [ei, q4]; exact w9
    have go : ∀ (c : Int32) (y4 : Value), c = nI (wCo f kk i) → am_W am_all C e_Finder_lookAsIfWiped Q 2 [.ref 25, .ref r, .int (nI kk), .int (nI i + 1), y4] [] (am_u (am_u (am_u I' 26 (nI i).toNatClampNeg 1) 27 (nI i).toNatClampNeg 1) 28 (nI i).toNatClampNeg c) L (gg Lx ρ) 0 0 := by
      intro c y4 hc
      rw [ei, nI_1]
      refine lp_law hr hR hwf hk h m (i + 1) _ _ (by omega) (((hf.u (by simp)).u (by simp)).u (by simp)) (fun j hj => ?_)
      have hb := wCo_b (kk := kk) hwf (show j < n by omega)
      by_cases z : j = i
      · subst z
        refine ⟨?_, ?_, ?_, hb⟩
        · rw [am_u_ne (by decide), am_u_ne (by decide), am_u_at]; rfl
        · rw [am_u_ne (by decide), am_u_at]; rfl
        · rw [am_u_at, hc]
      · obtain ⟨z1, z2, z3, z4⟩ := hv j (by omega)
        refine ⟨?_, ?_, ?_, hb⟩
        · rw [am_u_ne (by decide), am_u_ne (by decide), am_u_nk z]; exact z1
        · rw [am_u_ne (by decide), am_u_nk z, am_u_ne (by decide)]; exact z2
        · rw [am_u_nk z, am_u_ne (by decide), am_u_ne (by decide)]; exact z3
    have ed : am_u (am_u I' 26 (nI i).toNatClampNeg 1) 27 (nI i).toNatClampNeg 1 (r + 3) (nI i).toNatClampNeg = nI (rD f i) := by rw [am_u_ne (by omega), am_u_ne (by omega), ei, q3]; exact w6
    refine sz_Finder_lookAsIfWiped_2 r _ _ _ hr (fun z => absurd (by rw [hR'.2.1]; exact nI_lt (by omega) (by omega)) z) (fun _ z => absurd (nI_lt (b := 17) (by omega) (by decide)) z) (fun _ _ => vp_in_nI (by omega) (by decide)) (fun _ _ z => ?_) (fun _ _ z z2 => ?_) (fun _ _ z z2 => ?_)
    · rw [el] at z
      have hz : rL f i = 0 := (nI_eq (b := 0) (by omega) (by decide)).mp z
      exact go _ _ (by rw [ed]; unfold wCo; rw [if_pos (Or.inl hz)])
    · rw [el] at z z2
      have hz : ¬ rL f i = 0 := fun y => z (by rw [y]; rfl)
      have hz2 : ¬ rL f i = kk := fun y => z2 (by rw [y])
      exact go _ _ (by rw [ed, show (1000 : Int32) = nI 1000 from rfl, nI_add]; unfold wCo; rw [if_neg (fun y => y.elim hz hz2)])
    · rw [el] at z2
      have hz2 : rL f i = kk := (nI_eq (by omega) (by omega)).mp z2
      exact go _ _ (by rw [ed]; unfold wCo; rw [if_pos (Or.inr hz2)])
theorem nI_d1000 {x : Nat} (h : x < 2 ^ 31) : nI x / 1000 = nI (x / 1000) := pk_div (d := 1000) h (by decide) (by decide)
theorem nI_r1000 {x : Nat} (h : x < 2 ^ 31) : nI x - nI x / 1000 * 1000 = nI (x % 1000) := pk_rem (d := 1000) h (by decide) (by decide)
theorem sp_LL_wiped {I : am_I} {L : am_L} {f : Nat → Int32} {P n C m : Nat} {k fr to w : Int32} (hS : stS I 94 f n C m) (hwS : wfS Rs f P n C m)
    (h : ∀ I' L', frA I I' → Q (some (.int (pWp f P n k fr to w))) I' L' (gg Lx ρ)) : am_run (d + 5) m_LL_wiped [.ref 12, .int k, .int fr, .int to, .int w] I L (gg Lx ρ) Q := by
  have hP := hwS.P
  obtain ⟨hn1, hn16, hwf⟩ := hwS.n
  unfold pWp at h
  refine run_in rfl rfl ⟨rfl, rfl⟩ (sy_LL_wiped_0 (d := d + 2) _ _ _ _ (fun z => ?_) (fun _ z => ?_) (fun z z2 z3 => ?_) (fun _ _ z => ?_))
  · rw [if_neg (fun y => z ((hAsk_n hS hwS).mpr y.1))] at h; exact h I L frA.rf
  · rw [if_neg (fun y => y.2.1 z)] at h; exact h I L frA.rf
  · have z := (hAsk_n hS hwS).mp z
    rw [if_pos ⟨z, z2, z3⟩] at h
    obtain ⟨kk, p, t, k1, k7, rfl, hp, rfl, ht, rfl⟩ := asks_n hP.2 z
    rw [nI_clamp (n := p) (by omega), nI_clamp (n := t) (by omega), nI_clamp (n := kk) (by omega)] at h
    refine run_in rfl rfl ⟨rfl, rfl⟩ (sz_Finder_lookAsIfWiped_0 95 _ (by decide) (lp_law (r := 95) (f := f) (n := n) (by decide) hS.1 hwf k7 (fun I1 f1 hlk1 => sy_LL_wiped_38 (d := d + 2) _ _ _ _ _ ?_) n 0 I _ (by omega) frc.rf (fun j hj => absurd hj (Nat.not_lt_zero j))))
    refine sp_Finder_measure (d := d + 2) (r := 95) (by decide) (rdR_fr (fun a g1 g2 => f1 a (by simp; omega)) hS.1) hwf hlk1 hP.1 hP.2 ht (fun I2 f2 v2 => ?_)
    have hb : dst (rA f) (rB f) (wCo f kk) tt1 tt1 n t p ≤ 1000000 := dst_B p
    have hA : frA I I2 := (f1.A (by simp)).tr (f2.A (by simp))
    have v2' : ∀ q, q < 10 → I2 29 q = nI (dst (rA f) (rB f) (wCo f kk) tt1 tt1 n t q) := v2
    have ec := cCost_n v2' (show p < 10 by omega) hb
    have hne : ∀ x : Nat, x < 2 ^ 31 → ¬ nI x = -2 := fun x hx y => absurd (show nI x < 0 by rw [y]; decide) (nI_pos hx)
    refine sy_LL_wiped_53 (d := d + 2) _ _ _ _ _ (fun y y2 => ?_) (fun y y2 => ?_) (fun y => ?_)
    · rw [ec] at y ⊢
      by_cases e : dst (rA f) (rB f) (wCo f kk) tt1 tt1 n t p < 1000000
      · rw [if_pos e, if_neg y2] at h
        rw [if_pos e, nI_r1000 (by omega)]; exact h I2 L hA
      · rw [if_neg e] at y; exact absurd rfl y
    · rw [ec] at y ⊢
      by_cases e : dst (rA f) (rB f) (wCo f kk) tt1 tt1 n t p < 1000000
      · rw [if_pos e, if_pos y2] at h
        rw [if_pos e, nI_d1000 (by omega)]; exact h I2 L hA
      · rw [if_neg e] at y; exact absurd rfl y
    · rw [ec] at y
      by_cases e : dst (rA f) (rB f) (wCo f kk) tt1 tt1 n t p < 1000000
      · rw [if_pos e] at y; exact absurd y (hne _ (by omega))
      · rw [if_neg e] at h; exact h I2 L hA
  · rw [if_neg (fun y => y.2.2 z)] at h; exact h I L frA.rf
theorem wip_half {I : am_I} {L : am_L} {j w A B c : Nat} {fl : Bool} {D : Nat → Nat} {x1 x2 x3 x4 : Int32} {x9 : Value} (hj : j < 17) (hw : w < 2) (hA : I 198 (7 + 5 * j + w) = nI A) (hB : I 198 (7 + 5 * j + (1 - w)) = nI B) (hA10 : A < 10) (hB10 : B < 10) (hc2 : c ≤ 2000) (hD : ∀ p, p < 10 → I 200 p = nI (D p)) (hDB : ∀ p, D p ≤ 1000000)
    (h : ∀ I' x9, frm [200] [] I I' → (∀ p, p < 10 → I' 200 p = nI (relx A B c true D p)) → am_W am_all (am_run (d + 2)) e_Model_wiped Q 125 [.ref 186, .int x1, .int x2, .int x3, .int x4, .int (bI ((fl || decide (true = true ∧ D B + c < D A)) = true)), .int (nI j), .int (nI c), .int (nI (w + 1)), x9] [] I' L (gg Lx ρ) 0 0) :
    am_W am_all (am_run (d + 2)) e_Model_wiped Q 125 [.ref 186, .int x1, .int x2, .int x3, .int x4, .int (bI (fl = true)), .int (nI j), .int (nI c), .int (nI w), x9] [] I L (gg Lx ρ) 0 0 := by
  have c2 : nI w < 2 := nI_lt (b := 2) hw (by decide)
  have e1w : (1 : Int32) - nI w = nI (1 - w) := pk_sub (a := 1) (b := w) (by omega)
  have rA : mR I (nI j) (nI w) = nI A := (mR_n (by omega)).trans hA
  have rB : mR I (nI j) (1 - nI w) = nI B := by rw [e1w]; exact (mR_n (by omega)).trans hB
  have cA : (nI A).toNatClampNeg = A := nI_clamp (by omega)
  have cB : (nI B).toNatClampNeg = B := nI_clamp (by omega)
  have es : I 200 (mR I (nI j) (1 - nI w)).toNatClampNeg + nI c = nI (D B + c) := by rw [rB, cB, hD _ hB10, nI_add]
  have ea : I 200 (mR I (nI j) (nI w)).toNatClampNeg = nI (D A) := by rw [rA, cA, hD _ hA10]
  have d1 := hDB A
  have d2 := hDB B
  refine sy_Model_wiped_125 _ _ _ _ _ _ _ _ _ (fun z => absurd c2 z) (fun _ => by rw [e1w]; exact oR_n (by omega)) (fun _ => by rw [rB]; exact vp_in_nI hB10 (by decide)) (fun _ => oR_n (by omega)) (fun _ => by rw [rA]; exact vp_in_nI hA10 (by decide)) (fun _ z => ?_) (fun _ z => ?_)
  · rw [es, ea] at z
    have hyes : true = true ∧ D B + c < D A := ⟨rfl, (nI_ltI (by omega) (by omega)).mp z⟩
    rw [nI_1, es, rA, cA]
    have h := h (am_u I 200 A (nI (D B + c))) (.int (nI (D B + c))) (frm.rf.u (by simp) (by decide)) (mem_relx hD hyes)
    rw [decide_eq_true hyes, Bool.or_true, bI_t rfl] at h
    exact h
  · rw [es, ea] at z
    have hno : ¬ (true = true ∧ D B + c < D A) := fun y => z (nI_lt y.2 (by omega))
    rw [nI_1]
    have h := h I (.int (I 200 (mR I (nI j) (1 - nI w)).toNatClampNeg + nI c)) frm.rf (by rw [relx_id hno]; exact hD)
    rw [decide_eq_false hno, Bool.or_false] at h
    exact h
theorem lp_mwpI {I : am_I} {L : am_L} {n kk : Nat} {f : Nat → Int32} {D : Nat → Nat} {x2 x3 x4 : Int32} (hn : f 1 = nI n) (hf0 : I 198 = f) (hwf : wfN f n) (hk1 : 1 ≤ kk) (hk7 : kk ≤ 7) (hDB : ∀ p, D p ≤ 1000000)
    (h : ∀ I' x6 x7 x8 x9, frm [200] [] I I' → (∀ p, p < 10 → I' 200 p = nI (gPass (rA f) (rB f) (wCo f kk) tt1 tt1 n D p)) → am_W am_all (am_run (d + 2)) e_Model_wiped Q 62 [.ref 186, .int (nI kk), .int x2, .int x3, .int x4, .int (bI (gChg (rA f) (rB f) (wCo f kk) tt1 tt1 n D = true)), x6, x7, x8, x9] [] I' L (gg Lx ρ) 0 0) : ∀ m j I' (x7 x8 x9 : Value), j + m = n → frm [200] [] I I' → (∀ p, p < 10 → I' 200 p = nI (gPass (rA f) (rB f) (wCo f kk) tt1 tt1 j D p)) → am_W am_all (am_run (d + 2)) e_Model_wiped Q 73 [.ref 186, .int (nI kk), .int x2, .int x3, .int x4, .int (bI (gChg (rA f) (rB f) (wCo f kk) tt1 tt1 j D = true)), .int (nI j), x7, x8, x9] [] I' L (gg Lx ρ) 0 0
  | 0, j, I', x7, x8, x9, e, hf, hv => by
    have e : j = n := e
    subst e
    have hno : ¬ nI j < I' 198 1 := by rw [hf.1 198 (by decide) (by simp), hf0, hn]; exact nI_nlt (Nat.le_refl _) (by have := hwf.1; omega)
    exact sy_Model_wiped_73 _ _ _ _ _ _ _ _ _ (fun _ => h I' _ _ _ _ hf hv) (fun z => absurd z hno) (fun z => absurd z hno) (fun z => absurd z hno) (fun z => absurd z hno) (fun z => absurd z hno)
  | m + 1, j, I', x7, x8, x9, e, hf, hv => by
    have hn17 := hwf.1
    have hj : j < n := by omega
    obtain ⟨w1, w2, w3, w4, w5, w6, w7, w8, w9, w10⟩ := hwf.2 j hj
    have e198 : ∀ J, frm [200] [] I J → J 198 = f := fun J hJ => (hJ.1 198 (by decide) (by simp)).trans hf0
    have hP : ∀ p, gPass (rA f) (rB f) (wCo f kk) tt1 tt1 j D p ≤ 1000000 := fun p => Nat.le_trans (gPass_le j D p) (hDB p)
    have hb := wCo_b (kk := kk) hwf hj
    have go : ∀ c : Int32, c = nI (wCo f kk j) → ∀ y9 : Value, am_W am_all (am_run (d + 2)) e_Model_wiped Q 125 [.ref 186, .int (nI kk), .int x2, .int x3, .int x4, .int (bI (gChg (rA f) (rB f) (wCo f kk) tt1 tt1 j D = true)), .int (nI j), .int c, .int 0, y9] [] I' L (gg Lx ρ) 0 0 := by
      intro c hc y9
      subst hc
      refine wip_half (w := 0) (A := rA f j) (B := rB f j) (c := wCo f kk j) (by omega) (by omega) (by rw [e198 I' hf]; exact w1) (by rw [e198 I' hf]; exact w3) w2 w4 hb.2 hv hP (fun I2 z9 f2 v2 => ?_)
      have hf2 : frm [200] [] I I2 := hf.tr f2
      refine wip_half (w := 1) (A := rB f j) (B := rA f j) (c := wCo f kk j) (by omega) (by omega) (by rw [e198 I2 hf2]; exact w3) (by rw [e198 I2 hf2]; exact w1) w4 w2 hb.2 v2 (fun p => Nat.le_trans (relx_le _ _ _ _ _ _) (hP p)) (fun I3 q9 f3 v3 => ?_)
      refine sy_Model_wiped_125 _ _ _ _ _ _ _ _ _ (fun _ => ?_) (fun z => absurd z (by decide)) (fun z => absurd z (by decide)) (fun z => absurd z (by decide)) (fun z => absurd z (by decide)) (fun z => absurd z (by decide)) (fun z => absurd z (by decide))
      rw [nI_1]
      exact lp_mwpI hn hf0 hwf hk1 hk7 hDB h m (j + 1) I3 _ _ _ (by omega) (hf2.tr f3) v3
    have r2 : mR I' (nI j) 2 = nI (rD f j) := (mR_n (c := 2) (by omega)).trans (by rw [e198 I' hf]; exact w6)
    have r3 : mR I' (nI j) 3 = nI (rL f j) := (mR_n (c := 3) (by omega)).trans (by rw [e198 I' hf]; exact w9)
    refine sy_Model_wiped_73 _ _ _ _ _ _ _ _ _ (fun z => absurd (by rw [e198 I' hf, hn]; exact nI_lt hj (by omega)) z) (fun _ => oR_n (c := 2) (by omega)) (fun _ => oR_n (c := 3) (by omega)) (fun _ z => ?_) (fun _ z z2 => ?_) (fun _ z z2 => ?_)
    · rw [r3] at z
      have hz : rL f j = 0 := Nat.eq_zero_of_not_pos fun y => z (nI_lt (a := 0) y (by omega))
      rw [r2, nI_add0]
      exact go _ (by unfold wCo; rw [if_pos (Or.inl hz)]) _
    · rw [r3] at z2
      have hz2 : rL f j = kk := (nI_eq (by omega) (by omega)).mp z2
      rw [r2, nI_add0]
      exact go _ (by unfold wCo; rw [if_pos (Or.inr hz2)]) _
    · rw [r3] at z z2
      have hz : ¬ rL f j = 0 := fun y => absurd z (by rw [y]; decide)
      have hz2 : ¬ rL f j = kk := fun y => z2 (by rw [y])
      rw [r2, show (1000 : Int32) = nI 1000 from rfl, nI_add]
      exact go _ (by unfold wCo; rw [if_neg (fun y => y.elim hz hz2), Nat.add_comm]) _
theorem lp_mwp {I : am_I} {L : am_L} {n kk t p : Nat} {f : Nat → Int32} {x3 x4 : Int32} (hn : f 1 = nI n) (hf0 : I 198 = f) (hwf : wfN f n) (hk1 : 1 ≤ kk) (hk7 : kk ≤ 7) (ht : t < 10) (hp : p < 10)
    (h : ∀ I', frm [200] [] I I' → Q (some (.int (if dst (rA f) (rB f) (wCo f kk) tt1 tt1 n t p < 1000000 then (if x4 = 0 then nI (dst (rA f) (rB f) (wCo f kk) tt1 tt1 n t p / 1000) else nI (dst (rA f) (rB f) (wCo f kk) tt1 tt1 n t p % 1000)) else -2))) I' L (gg Lx ρ)) : ∀ m k I' (fl : Bool) (x6 x7 x8 x9 : Value), k + m = 10 → frm [200] [] I I' → (∀ p, p < 10 → I' 200 p = nI (gIt (rA f) (rB f) (wCo f kk) tt1 tt1 n k (gInit t 1000000) p)) → (k = 10 → fl = false) → (fl = false → gIt (rA f) (rB f) (wCo f kk) tt1 tt1 n k (gInit t 1000000) = dst (rA f) (rB f) (wCo f kk) tt1 tt1 n t) → am_W am_all (am_run (d + 2)) e_Model_wiped Q 62 [.ref 186, .int (nI kk), .int (nI p), .int x3, .int x4, .int (bI (fl = true)), x6, x7, x8, x9] [] I' L (gg Lx ρ) 0 0
  | m, k, I', fl, x6, x7, x8, x9, e, hf, hv, hk, hfl => by
    have ha : ∀ j, j < n → rA f j < 10 ∧ rB f j < 10 := fun j hj => ⟨(hwf.2 j hj).2.1, (hwf.2 j hj).2.2.2.1⟩
    have hc : ∀ j, j < n → 0 < wCo f kk j := fun j hj => (wCo_b hwf hj).1
    have hb : dst (rA f) (rB f) (wCo f kk) tt1 tt1 n t p ≤ 1000000 := dst_B p
    have hff : bI (fl = true) = 0 → fl = false := fun z => by cases fl with
      | false => rfl
      | true => exact absurd rfl (bI0 z)
    have ev : bI (fl = true) = 0 → I' 200 (nI p).toNatClampNeg = nI (dst (rA f) (rB f) (wCo f kk) tt1 tt1 n t p) := fun z => by rw [nI_clamp (by omega), hv p hp, hfl (hff z)]
    have h := h I' hf
    refine sy_Model_wiped_62 _ _ _ _ _ _ _ _ _ (fun _ => vp_in_nI hp (by decide)) (fun z y y2 => ?_) (fun z y y2 => ?_) (fun z y => ?_) (fun z => ?_)
    · rw [ev z] at y ⊢
      rw [if_pos (Classical.byContradiction fun q => y ((nI_B hb).mpr q)), if_neg y2] at h
      rw [nI_r1000 (by omega)]; exact h
    · rw [ev z] at y ⊢
      rw [if_pos (Classical.byContradiction fun q => y ((nI_B hb).mpr q)), if_pos y2] at h
      rw [nI_d1000 (by omega)]; exact h
    · rw [ev z] at y
      rw [if_neg ((nI_B hb).mp y)] at h; exact h
    · match m, e with
      | 0, e => exact absurd (bI_f (by rw [hk e]; decide)) z
      | m + 1, e =>
        refine lp_mwpI (D := gIt (rA f) (rB f) (wCo f kk) tt1 tt1 n k (gInit t 1000000)) (I := I) hn hf0 hwf hk1 hk7 (fun p => gIt_B k p) (fun I2 y6 y7 y8 y9 hf2 hv2 => ?_) n 0 I' x7 x8 x9 (by omega) hf hv
        refine lp_mwp hn hf0 hwf hk1 hk7 ht hp (by assumption) m (k + 1) I2 _ y6 y7 y8 y9 (by omega) hf2 hv2 (fun hk10 => ?_) (fun hz => ?_)
        · have hk9 : k = 9 := by omega
          subst hk9
          cases ec : gChg (rA f) (rB f) (wCo f kk) tt1 tt1 n (gIt (rA f) (rB f) (wCo f kk) tt1 tt1 n 9 (gInit t 1000000)) with
          | false => rfl
          | true =>
            obtain ⟨y, hy⟩ := gChg_t n _ ec
            rw [gDst_fix ha hc ht] at hy
            exact absurd hy (Nat.lt_irrefl _)
        · have hid := gChg_f n _ hz
          show gPass (rA f) (rB f) (wCo f kk) tt1 tt1 n (gIt (rA f) (rB f) (wCo f kk) tt1 tt1 n k (gInit t 1000000)) = _
          rw [hid]
          exact gDst_eq ha hc ht hid
theorem lp_mwp0 {I : am_I} {L : am_L} {t : Nat} {x1 x2 x4 : Int32} {x6 x7 x8 x9 : Value} (ht : t < 10) (h : ∀ I', frm [200] [] I I' → (∀ p, p < 10 → I' 200 p = nI (gInit t 1000000 p)) → am_W am_all (am_run (d + 2)) e_Model_wiped Q 62 [.ref 186, .int x1, .int x2, .int (nI t), .int x4, .int 1, x6, x7, x8, x9] [] I' L (gg Lx ρ) 0 0) : ∀ m i I', i + m = 10 → frm [200] [] I I' → (∀ p, p < i → I' 200 p = nI (gInit t 1000000 p)) → am_W am_all (am_run (d + 2)) e_Model_wiped Q 26 [.ref 186, .int x1, .int x2, .int (nI t), .int x4, .int (nI i), x6, x7, x8, x9] [] I' L (gg Lx ρ) 0 0
  | 0, i, I', e, hf, hv => by
    have e : i = 10 := e
    subst e
    exact sy_Model_wiped_26 _ _ _ _ _ _ _ _ _ (fun _ => h I' hf hv) (fun z => absurd z (by decide)) (fun z => absurd z (by decide)) (fun z => absurd z (by decide)) (fun z => absurd z (by decide))
  | m + 1, i, I', e, hf, hv => by
    have v10 : vp_in (nI i) 10 := vp_in_nI (by omega) (by decide)
    have hit : nI i = nI t ↔ i = t := nI_eq (by omega) (by omega)
    refine sy_Model_wiped_26 _ _ _ _ _ _ _ _ _ (fun z => absurd (nI_lt (b := 10) (by omega) (by decide)) z) (fun _ _ => v10) (fun _ z => ?_) (fun _ _ => v10) (fun _ z => ?_)
    · rw [nI_clamp (by omega), nI_1]
      refine lp_mwp0 ht h m (i + 1) _ (by omega) (hf.u (by simp) (by decide)) (fun p hp => ?_)
      by_cases e2 : p = i
      · subst e2; rw [am_u_at]; unfold gInit; rw [if_neg (fun y => z (hit.mpr y))]; rfl
      · rw [am_u_nk e2]; exact hv p (by omega)
    · rw [nI_clamp (by omega), nI_1]
      refine lp_mwp0 ht h m (i + 1) _ (by omega) (hf.u (by simp) (by decide)) (fun p hp => ?_)
      by_cases e2 : p = i
      · subst e2; rw [am_u_at]; unfold gInit; rw [if_pos (hit.mp z)]; rfl
      · rw [am_u_nk e2]; exact hv p (by omega)
theorem sp_Model_wiped {I : am_I} {L : am_L} {P n C m : Nat} {k fr to w : Int32} (hwS : wfS Rs (I 198) P n C m)
    (h : ∀ I' L', frB n I I' → Q (some (.int (pWp (I 198) P n k fr to w))) I' L' (gg Lx ρ)) : am_run (d + 3) m_Model_wiped [.ref 186, .int k, .int fr, .int to, .int w] I L (gg Lx ρ) Q := by
  have hP := hwS.P
  obtain ⟨hn1, hn16, hwf⟩ := hwS.n
  have i3 : mIn (Int32.toInt64 w) 0 1 ↔ (¬ w < 0 ∧ ¬ 1 < w) := mIn_i (a := 0) (b := 1)
  unfold pWp at h
  refine run_in rfl rfl ⟨rfl, rfl⟩ (sy_Model_wiped_0 _ _ _ _ (fun z => ?_) (fun z z2 => ?_) (fun _ z => ?_))
  · rw [if_neg (fun y => z ((mAsk_n hwS).mpr y.1))] at h; exact h I L frB.rf
  · have z := (mAsk_n hwS).mp z
    have z2 := i3.mp z2
    rw [if_pos ⟨z, z2.1, z2.2⟩] at h
    obtain ⟨kk, p, t, k1, k7, rfl, hp, rfl, ht, rfl⟩ := asks_n hP.2 z
    rw [nI_clamp (n := p) (by omega), nI_clamp (n := t) (by omega), nI_clamp (n := kk) (by omega)] at h
    refine lp_mwp0 (show t < 10 by omega) (fun I1 f1 v1 => ?_) 10 0 I (by omega) frm.rf (fun p hp => absurd hp (Nat.not_lt_zero p))
    exact lp_mwp (I := I) (n := n) (kk := kk) (t := t) hn1 rfl hwf k1 k7 (by omega) (by omega) (fun I' f2 => h I' L (f2.B (by simp) (by simp))) 10 0 I1 true _ _ _ _ (by omega) f1 v1 (fun z => absurd z (by decide)) (fun z => absurd z (by decide))
  · rw [if_neg (fun y => z (i3.mpr ⟨y.2.1, y.2.2⟩))] at h; exact h I L frB.rf
end WPD
