/-! ===== plan of the reference ===== -/
def o1I : Option Nat → Int32
  | some j => nI j
  | none => -1
theorem b01_2 : ∀ p, p < 10 → ∀ b : Bool, (nI (2 * p + b01 b) - nI (2 * p + b01 b) / 2 * 2 = 1 ↔ b = true) ∧ nI (2 * p + b01 b) / 2 = nI p := by decide +kernel
theorem fL_set {f : Nat → Int32} {n r v : Nat} {ls : List Nat} (hr : r < n) (hls : ls.length = n) : up1 (fL f n ls) (7 + 5 * r + 3) (nI v) = fL f n (ls.set r v) := funext fun i => by
  by_cases e : i = 7 + 5 * r + 3
  · subst e; rw [up1_at, fL_3 hr, gDs (by omega), if_pos rfl]
  · rw [up1_ne e]
    by_cases z : i % 5 = 0 ∧ 10 ≤ i ∧ i < 10 + 5 * n
    · have e5 : i = 7 + 5 * ((i - 10) / 5) + 3 := by omega
      rw [e5, fL_3 (by omega), fL_3 (by omega), gDs (by omega), if_neg (by omega)]
    · rw [fL_o z, fL_o z]
section PLQ
variable {d Lx : Nat} {ρ : List (Nat × Nat)} {Q : am_Q} {Rs : List (List (Nat × List Nat))}
theorem lp_lst {I : am_I} {L : am_L} {K : am_C} {n : Nat} {st : PSt} {G : Nat → Bool} (hW : plW n st) (hP : reP I L st G) (h : Q (some (.int (o1I (lsG st G st.1)))) I L (gg Lx ρ)) : ∀ q k, k + q = st.1 → am_W am_all K e_Model_least Q 4 [.ref 186, .int (o1I (lsG st G k)), .int (nI k)] [] I L (gg Lx ρ) 0 0
  | 0, k, e => by
    have e : k = st.1 := e
    subst e
    have h1000 := hW.1
    have hno : ¬ nI st.1 < I 186 35 := by rw [hP.1]; exact nI_nlt (Nat.le_refl _) (by omega)
    exact sz_Model_least_4 _ _ (fun _ => h) (fun z => absurd z hno) (fun z => absurd z hno) (fun z => absurd z hno) (fun z => absurd z hno) (fun z => absurd z hno) (fun z => absurd z hno)
  | q + 1, k, e => by
    have h1000 := hW.1
    have hk : k < st.1 := by omega
    have hyes : nI k < I 186 35 := by rw [hP.1]; exact nI_lt hk (by omega)
    obtain ⟨q1, q2, q3⟩ := hP.2.1 k hk
    have hdk := (hW.2.1 k hk).2
    have ek : (nI k).toNatClampNeg = k := nI_clamp (by omega)
    have ih := lp_lst (K := K) hW hP h q (k + 1) (by omega)
    unfold lsG at ih
    rw [← nI_1] at ih
    have hG : I 204 (nI k).toNatClampNeg = bI (G k = true) := by rw [ek]; exact q3
    refine sz_Model_least_4 _ _ (fun z => absurd hyes z) (fun _ => vp_in_nI (by omega) (by decide)) (fun _ z => ?_) (fun _ z z2 => ?_) (fun _ z z2 => ?_) (fun _ z z2 z3 => ?_) (fun _ z z2 z3 => ?_)
    · rw [hG] at z
      rw [if_pos (bI1 z)] at ih; exact ih
    · rw [hG] at z
      rw [if_neg (bI0 z)] at ih
      cases e1 : lsG st G k with
      | none => rw [e1] at ih; exact ih
      | some b =>
        rw [e1] at z2
        have := ((lsG_p (st := st) (G := G) k).2 b e1).1
        exact absurd z2 (nI_pos (by omega))
    · cases e1 : lsG st G k with
      | none => rw [e1] at z2; exact absurd (by decide) z2
      | some b =>
        have := ((lsG_p (st := st) (G := G) k).2 b e1).1
        exact vp_in_nI (by omega) (by decide)
    · rw [hG] at z
      rw [if_neg (bI0 z)] at ih
      cases e1 : lsG st G k with
      | none => rw [e1] at z2; exact absurd (by decide) z2
      | some b =>
        have hb := ((lsG_p (st := st) (G := G) k).2 b e1).1
        have hdb := (hW.2.1 b (by omega)).2
        rw [e1] at ih z3
        rw [ek, q2, show (o1I (some b)).toNatClampNeg = b from nI_clamp (by omega), (hP.2.1 b (by omega)).2.1] at z3
        have ih : am_W am_all K e_Model_least Q 4 [.ref 186, .int (o1I (if st.2.2.1 k < st.2.2.1 b then some k else some b)), .int (nI k + 1)] [] I L (gg Lx ρ) 0 0 := ih
        rw [if_neg (fun q => z3 (nI_lt q (by omega)))] at ih
        exact ih
    · rw [hG] at z
      rw [if_neg (bI0 z)] at ih
      cases e1 : lsG st G k with
      | none => rw [e1] at z2; exact absurd (by decide) z2
      | some b =>
        have hb := ((lsG_p (st := st) (G := G) k).2 b e1).1
        have hdb := (hW.2.1 b (by omega)).2
        rw [e1] at ih z3
        rw [ek, q2, show (o1I (some b)).toNatClampNeg = b from nI_clamp (by omega), (hP.2.1 b (by omega)).2.1] at z3
        have ih : am_W am_all K e_Model_least Q 4 [.ref 186, .int (o1I (if st.2.2.1 k < st.2.2.1 b then some k else some b)), .int (nI k + 1)] [] I L (gg Lx ρ) 0 0 := ih
        rw [if_pos (Classical.byContradiction fun q => absurd z3 (nI_nlt (by omega) (by omega)))] at ih
        exact ih
/-- all but the reference's scratch of a plan -/
def frP (I I' : am_I) : Prop := (∀ a, a ≠ 186 → a ≠ 198 → a ≠ 203 → a ≠ 204 → a ≠ 205 → I' a = I a) ∧ ∀ k, k ≠ 24 → k ≠ 35 → k ≠ 36 → I' 186 k = I 186 k
theorem frP.rf {I : am_I} : frP I I := ⟨fun _ _ _ _ _ _ => rfl, fun _ _ _ _ => rfl⟩
theorem frP.tr {I I' I2 : am_I} (h : frP I I') (g : frP I' I2) : frP I I2 := ⟨fun a h1 h2 h3 h4 h5 => (g.1 a h1 h2 h3 h4 h5).trans (h.1 a h1 h2 h3 h4 h5), fun k h1 h2 h3 => (g.2 k h1 h2 h3).trans (h.2 k h1 h2 h3)⟩
theorem frP.M {I I' : am_I} (h : frP I I') (hM : RCm I Rs) : RCm I' Rs := RCm_fr (h.2 2 (by decide) (by decide) (by decide)) (h.1 188 (by decide) (by decide) (by decide) (by decide) (by decide)) (h.1 190 (by decide) (by decide) (by decide) (by decide) (by decide)) (h.1 191 (by decide) (by decide) (by decide) (by decide) (by decide)) hM
theorem fr24.P {I I' : am_I} (h : fr24 I I') : frP I I' := ⟨fun a h1 _ _ _ _ => h.c h1, fun k h1 _ _ => h 186 k (fun q => h1 q.2)⟩
theorem plGo_o {f : Nat → Int32} {n kd lies D0 : Nat} {st : PSt} {s : Sit} {D r : Nat} (h : (plGo Rs f n kd lies D0 s D r st).2.2.2 = true) : ∀ q, (plGo Rs f n kd lies D0 s D (r + q) st).2.2.2 = true
  | 0 => h
  | q + 1 => by
    have ih := plGo_o h q
    show (plRd Rs f n kd lies D0 s D (r + q) (plGo Rs f n kd lies D0 s D (r + q) st)).2.2.2 = true
    unfold plRd
    split
    · unfold plCm
      split
      · exact ih
      · split
        · exact ih
        · rfl
    · exact ih
theorem lp_mgR {I : am_I} {f : Nat → Int32} {n kd lies D0 D i : Nat} {s : Sit} {st : PSt} {G : Nat → Bool} {x1 x2 x6 : Int32} (hwf : wfN f n) (hn1 : f 1 = nI n) (hn : n ≤ 16) (hk : kd ≤ 7) (hl : lies < 10) (hD0 : D0 ≤ 9999) (hfo : foR Rs (f 6)) (hw : wfRs Rs) (hM : RCm I Rs) (hW : plW n st) (hi : i < st.1) (hsi : st.2.1 i = s) (hdi : st.2.2.1 i = D) (hG0 : ∀ k, st.1 ≤ k → G k = false) (hGD : ∀ k, k < st.1 → G k = true → st.2.2.1 k ≤ D)
    (h1 : ∀ I' L' (y10 : Int32) (y11 y12 y13 : Value), (plGo Rs f n kd lies D0 s D n st).2.2.2 = false → frP I I' → reP I' L' (plGo Rs f n kd lies D0 s D n st) G → I' 198 = fL f n s.2.2 → am_run (d + 5) m_Model_least [.ref 186] I' L' (gg Lx ρ) (fun r I' L' G' => am_W am_all (am_run (d + 5)) e_Model_plans Q 337 [.ref 186, .int x1, .int x2, .int (nI lies), .int (nI D0), .int (nI i), .int x6, .int (nI s.1), .int (bI (s.2.1 = true)), .int (plK kd s), .int y10, y11, y12, y13] (r.toList ++ ([] : List Value)) I' L' G' 0 0))
    (h0 : ∀ I' L', (plGo Rs f n kd lies D0 s D n st).2.2.2 = true → frP I I' → (∃ ls, I' 198 = fL f n ls) → Q (some (.int (-3))) I' L' (gg Lx ρ)) : ∀ q r (I' : am_I) (L' : am_L) (x11 x12 x13 : Value), r + q = n → (plGo Rs f n kd lies D0 s D r st).2.2.2 = false → frP I I' → reP I' L' (plGo Rs f n kd lies D0 s D r st) G → I' 198 = fL f n s.2.2 →
    am_W am_all (am_run (d + 5)) e_Model_plans Q 166 [.ref 186, .int x1, .int x2, .int (nI lies), .int (nI D0), .int (nI i), .int x6, .int (nI s.1), .int (bI (s.2.1 = true)), .int (plK kd s), .int (nI r), x11, x12, x13] [] I' L' (gg Lx ρ) 0 0
  | 0, r, I', L', x11, x12, x13, e, ho, hf, hP, e198 => by
    have e : r = n := e
    subst e
    have hno : ¬ nI r < I' 198 1 := by rw [e198, fL_o (by omega), hn1]; exact nI_nlt (Nat.le_refl _) (by omega)
    exact sy_Model_plans_166 (d := d + 3) _ _ _ _ _ _ _ _ _ _ _ _ _ (fun _ => h1 I' L' _ _ _ _ ho hf hP e198) (fun z => absurd z hno) (fun z => absurd z hno)
  | q + 1, r, I', L', x11, x12, x13, e, ho, hf, hP, e198 => by
    have hr : r < n := by omega
    have h1000 := hW.1
    have hs : okS n s := by rw [← hsi]; exact (hW.2.1 i hi).1
    have hDi : D ≤ 9 * i := by rw [← hdi]; exact (hW.2.1 i hi).2
    have hX := plGo_x (Rs := Rs) (kd := kd) (lies := lies) (D0 := D0) hwf hk hW hs hi hDi r (by omega)
    obtain ⟨w1, w2, w3, w4, w5, w6, w7, w8, w9, w10⟩ := hwf.2 r hr
    have hwL := wfN_fL hwf hs.2.2
    obtain ⟨v1, v2, v3, v4, v5, v6, v7, v8, v9, v10⟩ := hwL.2 r hr
    have hyes : nI r < I' 198 1 := by rw [e198, fL_o (by omega), hn1]; exact nI_lt hr (by omega)
    have ei : (nI i).toNatClampNeg = i := nI_clamp (by omega)
    have hX1 := hX.2.1
    have hX0 := hX.1.1
    have eD : (plGo Rs f n kd lies D0 s D r st).2.2.1 i = D := by rw [hX.2.2.2.2.1 i hi (by omega)]; exact hdi
    have e203 : I' 203 (nI i).toNatClampNeg = nI D := by rw [ei, (hP.2.1 i (by omega)).2.1, eD]
    obtain ⟨kk, hk7, ek⟩ := plK_n (s := s) hk
    have hk0 : ¬ plK kd s < 0 := by rw [ek]; exact nI_pos (by omega)
    have hl0 : ¬ I' 198 (7 + 5 * r + 3) < 0 := by rw [e198, v9]; exact nI_pos (by omega)
    have hfo' : foR Rs (I' 198 6) := by rw [e198, fL_o (by omega)]; exact hfo
    refine sy_Model_plans_166 (d := d + 3) _ _ _ _ _ _ _ _ _ _ _ _ _ (fun z => absurd hyes z) (fun _ => vp_in_nI (by omega) (by decide)) (fun _ => ?_)
    rw [e203, nI_add]
    refine sp_Model_broken (d := d + 1) (by omega) hk0 hl0 hfo' hw (hf.M hM) (fun I1 L1 f1 l1 => ?_)
    have e1 : I1 198 = fL f n s.2.2 := (f1.c (by decide)).trans e198
    have hf1 := hf.tr f1.P
    have hP1 : reP I1 L1 (plGo Rs f n kd lies D0 s D r st) G := reP_fr (fun k hk => f1 186 k (fun q => by omega)) (f1.c (by decide)) (f1.c (by decide)) (f1.c (by decide)) (l1 202 (by decide) (by decide)) hP
    rw [e198]
    have er3 : mR I1 (nI r) 3 = nI (s.2.2.getD r 0) := by rw [show mR I1 (nI r) 3 = I1 198 (7 + 5 * r + 3) from mR_n (c := 3) (by omega), e1, fL_3 hr]
    have e203' : I1 203 (nI i).toNatClampNeg = nI D := by rw [f1.c (by decide)]; exact e203
    refine sy_Model_plans_197 (d := d + 3) _ _ _ _ _ _ _ _ _ _ _ _ _ _ (fun _ => oR_n (c := 3) (by omega)) (fun _ => vp_in_nI (by omega) (by decide)) (fun z => ?_) (fun z => ?_)
    · have hz := (pBrk_v Rs (fL f n s.2.2) r (nI s.1) (plK kd s) (nI (D0 + D))).resolve_right z
      rw [e203', nI_add, er3]
      refine sp_Model_lastBehind (d := d + 1) (by omega) hk0 (by rw [e1, fL_o (by omega)]; exact hfo) hw (hf1.M hM) (fun I2 L2 f2 l2 => ?_)
      have e2 : I2 198 = fL f n s.2.2 := (f2.c (by decide)).trans e1
      have hf2 := hf1.tr f2.P
      have hP2 : reP I2 L2 (plGo Rs f n kd lies D0 s D r st) G := reP_fr (fun k hk => f2 186 k (fun q => by omega)) (f2.c (by decide)) (f2.c (by decide)) (f2.c (by decide)) (l2 202 (by decide) (by decide)) hP1
      rw [e1]
      obtain ⟨v, hv7, ev⟩ := pLst_n (Rs := Rs) (p := nI s.1) (dy := nI (D0 + D)) hwL hr ek hk7
      rw [ev]
      have k10 : ((7 + (5 * nI r)) + (3 : Int32)) = nI (7 + 5 * r + 3) := by rw [show (7 : Int32) = nI 7 from rfl, show (5 : Int32) = nI 5 from rfl, show (3 : Int32) = nI 3 from rfl, pk_mul, nI_add, nI_add]
      have e3 : am_u I2 198 (7 + 5 * r + 3) (nI v) 198 = fL f n (s.2.2.set r v) := by rw [am_u198, e2]; exact fL_set hr hs.2.1
      have h7s : ∀ x ∈ s.2.2.set r v, x ≤ 7 := fun x hx => by
        rcases List.mem_or_eq_of_mem_set hx with y | y
        · exact hs.2.2 x y
        · omega
      have eo : mOth (am_u I2 198 (7 + 5 * r + 3) (nI v)) (nI r) (nI s.1) = nI (plT f s r) := by
        have := mOth_ot (I := am_u I2 198 (7 + 5 * r + 3) (nI v)) (f := fL f n (s.2.2.set r v)) hr (wfN_fL hwf h7s) hs.1 (by rw [e3]) (by rw [e3])
        rw [rA_fL, rB_fL] at this; exact this
      have hplN : (plT f s r, s.2.1 || decide (plT f s r = lies), s.2.2.set r v) = plN Rs f n kd lies D0 s D r := by unfold plN; rw [ev, nI_clamp (by omega)]
      have hgo : plGo Rs f n kd lies D0 s D (r + 1) st = plCm (plGo Rs f n kd lies D0 s D r st) (plN Rs f n kd lies D0 s D r) (D + rD f r) := by
        show plRd Rs f n kd lies D0 s D r _ = _
        unfold plRd; rw [if_pos hz]
      have hsN := plN_ok (Rs := Rs) (lies := lies) (D0 := D0) (D := D) hwf hk hs hr
      have hto := otN_lt (p := s.1) hwf hr
      /- the number is told, the situation comes -/
      have go : ∀ x : Int32, x = bI ((s.2.1 || decide (plT f s r = lies)) = true) → am_run (d + 5) m_Model_numberOf [.ref 186, .int (nI (plT f s r)), .int x] (am_u I2 198 (7 + 5 * r + 3) (nI v)) L2 (gg Lx ρ) (fun t I' L' G' => am_W am_all (am_run (d + 5)) e_Model_plans Q 283 [.ref 186, .int x1, .int x2, .int (nI lies), .int (nI D0), .int (nI i), .int x6, .int (nI s.1), .int (bI (s.2.1 = true)), .int (plK kd s), .int (nI r), .int (nI (s.2.2.getD r 0)), .int (nI v), .int (nI (plT f s r))] (t.toList ++ ([.ref 186] : List Value)) I' L' G' 0 0) := by
        intro x ex
        refine sp_nO (d := d + 3) hn hto ex (by rw [List.length_set]; exact hs.2.1) h7s (by rw [e3, fL_o (by omega)]; exact hn1) (fun j hj => by rw [e3]; exact fL_3 hj) ?_
        rw [hplN]
        have e203'' : am_u I2 198 (7 + 5 * r + 3) (nI v) 203 (nI i).toNatClampNeg = nI D := by rw [am_u_ne (by decide), f2.c (by decide)]; exact e203'
        have er2 : mR (am_u I2 198 (7 + 5 * r + 3) (nI v)) (nI r) 2 = nI (rD f r) := by rw [show mR (am_u I2 198 (7 + 5 * r + 3) (nI v)) (nI r) 2 = am_u I2 198 (7 + 5 * r + 3) (nI v) 198 (7 + 5 * r + 2) from mR_n (c := 2) (by omega), e3, fL_o (by omega)]; exact w6
        refine sy_Model_plans_283 (d := d + 3) _ _ _ _ _ _ _ _ _ _ _ _ _ _ (vp_in_nI (by omega) (by decide)) (oR_n (c := 2) (by omega)) ?_
        rw [e203'', er2, nI_add]
        refine sp_comes (d := d + 3) hn hX.1 hsN (reP_fr (fun k _ => by rw [am_u_ne (by decide)]) (am_u_ne (by decide)) (am_u_ne (by decide)) (am_u_ne (by decide)) rfl hP2) (fun k hk hg => ?_) (fun k hk => hG0 k (by omega)) (by omega) (fun I3 L3 f3 g3 l3 P3 => ?_)
        · by_cases y : k < st.1
          · have := hGD k y hg
            rw [hX.2.2.2.2.1 k y this]; omega
          · rw [hG0 k (by omega)] at hg; exact absurd hg (by decide)
        · rw [← hgo] at P3
          have hf3 : frP I (am_u I3 198 (7 + 5 * r + 3) (nI (s.2.2.getD r 0))) := hf2.tr ⟨fun a z1 z2 z3 z4 z5 => by rw [am_u_ne z2, f3 a z1 z3 z4 z5, am_u_ne z2], fun k z1 z2 z3 => by rw [am_u_ne (by decide), g3 k z2 z3, am_u_ne (by decide)]⟩
          have e4 : am_u I3 198 (7 + 5 * r + 3) (nI (s.2.2.getD r 0)) 198 = fL f n s.2.2 := by
            rw [am_u198, f3 198 (by decide) (by decide) (by decide) (by decide), e3, fL_set hr (by rw [List.length_set]; exact hs.2.1), List.set_set]
            congr 1
            refine List.ext_getElem? fun j => ?_
            rw [List.getElem?_set]
            by_cases y : r = j
            · subst y
              rw [if_pos rfl, if_pos (by rw [hs.2.1]; exact hr), List.getD_eq_getElem?_getD, List.getElem?_eq_getElem (by rw [hs.2.1]; exact hr)]; rfl
            · rw [if_neg y]
          have P4 : reP (am_u I3 198 (7 + 5 * r + 3) (nI (s.2.2.getD r 0))) L3 (plGo Rs f n kd lies D0 s D (r + 1) st) G := reP_fr (fun k _ => by rw [am_u_ne (by decide)]) (am_u_ne (by decide)) (am_u_ne (by decide)) (am_u_ne (by decide)) rfl P3
          refine sy_Model_plans_301 (d := d + 3) _ _ _ _ _ _ _ _ _ _ _ _ _ (by rw [k10]; exact vp_in_nI (by omega) (by decide)) (fun z => ?_) (fun z => ?_)
          · rw [k10, nI_clamp (by omega), nI_1]
            rw [P3.2.2.2] at z
            have hof : (plGo Rs f n kd lies D0 s D (r + 1) st).2.2.2 = false := by
              cases y : (plGo Rs f n kd lies D0 s D (r + 1) st).2.2.2 with
              | false => rfl
              | true => exact absurd y (bI0 z)
            exact lp_mgR hwf hn1 hn hk hl hD0 hfo hw hM hW hi hsi hdi hG0 hGD h1 h0 q (r + 1) _ L3 _ _ _ (by omega) hof hf3 P4 e4
          · rw [k10, nI_clamp (by omega)]
            rw [P3.2.2.2] at z
            have := plGo_o (bI1 z) q
            rw [show r + 1 + q = n by omega] at this
            exact h0 _ L3 this hf3 ⟨_, e4⟩
      refine sy_Model_plans_232 (d := d + 3) _ _ _ _ _ _ _ _ _ _ _ _ _ _ (by rw [k10]; exact vp_in_nI (by omega) (by decide)) (oR_n (c := 0) (by omega)) (oR_n (c := 1) (by omega)) (fun z => ?_) (fun z z2 => ?_) (fun z z2 => ?_)
      · rw [k10, nI_clamp (by omega), eo]
        exact go 1 (by rw [bI1 z, Bool.true_or]; rfl)
      · rw [k10, nI_clamp (by omega)] at z2 ⊢
        rw [eo] at z2 ⊢
        refine go 0 ?_
        rw [show s.2.1 = false by cases hb : s.2.1 with
          | false => rfl
          | true => exact absurd hb (bI0 z), decide_eq_false (fun q => z2 (by rw [q])), Bool.false_or]; rfl
      · rw [k10, nI_clamp (by omega)] at z2 ⊢
        rw [eo] at z2 ⊢
        have hto' : plT f s r < 10 := hto
        exact go 1 (by rw [decide_eq_true ((nI_eq (by omega) (by omega)).mp z2), Bool.or_true]; rfl)
    · rw [nI_1]
      have hz : ¬ pBrk Rs (fL f n s.2.2) r (nI s.1) (plK kd s) (nI (D0 + D)) = 0 := fun q => by rw [q] at z; exact absurd z (by decide)
      have hgo : plGo Rs f n kd lies D0 s D (r + 1) st = plGo Rs f n kd lies D0 s D r st := by
        show plRd Rs f n kd lies D0 s D r _ = _
        unfold plRd; rw [if_neg hz]
      exact lp_mgR hwf hn1 hn hk hl hD0 hfo hw hM hW hi hsi hdi hG0 hGD h1 h0 q (r + 1) I1 L1 _ _ _ (by omega) (by rw [hgo]; exact ho) hf1 (by rw [hgo]; exact hP1) e1
end PLQ
