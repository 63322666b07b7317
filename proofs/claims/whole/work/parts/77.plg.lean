/-! ===== plan of the class: going through, days ===== -/
theorem rA_fL {f : Nat → Int32} {n : Nat} {ls : List Nat} : rA (fL f n ls) = rA f := funext fun j => by unfold rA; rw [fL_o (by omega)]
theorem rB_fL {f : Nat → Int32} {n : Nat} {ls : List Nat} : rB (fL f n ls) = rB f := funext fun j => by unfold rB; rw [fL_o (by omega)]
theorem rD_fL {f : Nat → Int32} {n : Nat} {ls : List Nat} : rD (fL f n ls) = rD f := funext fun j => by unfold rD; rw [fL_o (by omega)]
theorem gD7 {ls : List Nat} (h : ∀ x ∈ ls, x ≤ 7) (j : Nat) : ls.getD j 0 ≤ 7 := by
  rw [List.getD_eq_getElem?_getD]
  cases e : ls[j]? with
  | none => exact Nat.zero_le _
  | some x => exact h x (List.mem_of_getElem? e)
theorem wfN_fL {f : Nat → Int32} {n : Nat} {ls : List Nat} (hwf : wfN f n) (h7 : ∀ x ∈ ls, x ≤ 7) : wfN (fL f n ls) n := by
  refine ⟨hwf.1, fun j hj => ?_⟩
  obtain ⟨w1, w2, w3, w4, w5, w6, w7, w8, w9, w10⟩ := hwf.2 j hj
  have h := gD7 h7 j
  rw [rA_fL, rB_fL, rD_fL, fL_o (by omega), fL_o (by omega), fL_o (by omega), fL_3 hj]
  unfold rL
  rw [fL_3 hj, nI_clamp (by omega)]
  exact ⟨w1, w2, w3, w4, w5, w6, w7, w8, rfl, h⟩
theorem lsC_dg : ∀ (ls : List Nat) (j : Nat), (∀ x ∈ ls, x ≤ 7) → lsC ls / 8 ^ j % 8 = ls.getD j 0
  | [], j, _ => by show 0 / 8 ^ j % 8 = 0; rw [Nat.zero_div]
  | x :: ls, 0, h => by
    have := h x List.mem_cons_self
    show (lsC ls * 8 + x) / 8 ^ 0 % 8 = x
    rw [Nat.pow_zero, Nat.div_one]; omega
  | x :: ls, j + 1, h => by
    have hx := h x List.mem_cons_self
    show (lsC ls * 8 + x) / 8 ^ (j + 1) % 8 = ls.getD j 0
    rw [Nat.pow_succ, Nat.mul_comm (8 ^ j), ← Nat.div_div_eq_div_mul, show (lsC ls * 8 + x) / 8 = lsC ls by omega]
    exact lsC_dg ls j (fun y hy => h y (List.mem_cons_of_mem _ hy))
section PLG1
variable {Rs : List (List (Nat × List Nat))} {f : Nat → Int32} {n kd lies D0 : Nat}
theorem otN_lt {j p : Nat} (hwf : wfN f n) (hj : j < n) : otN (rA f) (rB f) j p < 10 := by
  obtain ⟨w1, w2, w3, w4, w5, w6, w7, w8, w9, w10⟩ := hwf.2 j hj
  unfold otN; split <;> assumption
theorem plK_n {s : Sit} (hk : kd ≤ 7) : ∃ q, q ≤ 7 ∧ plK kd s = nI q := by
  unfold plK
  split
  · exact ⟨kd, hk, rfl⟩
  · exact ⟨0, by omega, rfl⟩
theorem plN_ok {s : Sit} {D r : Nat} (hwf : wfN f n) (hk : kd ≤ 7) (hs : okS n s) (hr : r < n) : okS n (plN Rs f n kd lies D0 s D r) := by
  refine ⟨otN_lt hwf hr, by show (s.2.2.set r _).length = n; rw [List.length_set]; exact hs.2.1, fun x hx => ?_⟩
  have hx : x ∈ s.2.2.set r (pLst Rs (fL f n s.2.2) r (nI s.1) (plK kd s) (nI (D0 + D))).toNatClampNeg := hx
  rcases List.mem_or_eq_of_mem_set hx with z | z
  · exact hs.2.2 x z
  · obtain ⟨kk, hk7, ek⟩ := plK_n (s := s) hk
    obtain ⟨q, hq, eq⟩ := pLst_n (Rs := Rs) (p := nI s.1) (dy := nI (D0 + D)) (wfN_fL hwf hs.2.2) hr ek hk7
    rw [z, eq, nI_clamp (by omega)]; exact hq
/-- what going through keeps -/
def plX (n : Nat) (st : PSt) (D : Nat) (st' : PSt) : Prop := plW n st' ∧ st.1 ≤ st'.1 ∧ (∀ k, k < st.1 → st'.2.1 k = st.2.1 k) ∧ (∀ k, k < st'.1 → st'.2.2.1 k ≤ D → k < st.1 ∧ st.2.2.1 k ≤ D) ∧ (∀ k, k < st.1 → st.2.2.1 k ≤ D → st'.2.2.1 k = st.2.2.1 k) ∧ (st.2.2.2 = true → st'.2.2.2 = true)
theorem plX.rf {st : PSt} {D : Nat} (h : plW n st) : plX n st D st := ⟨h, Nat.le_refl _, fun _ _ => rfl, fun k h1 h2 => ⟨h1, h2⟩, fun _ _ _ => rfl, id⟩
theorem plX.cm {st st' : PSt} {D dd : Nat} {s : Sit} (h : plX n st D st') (hs : okS n s) (hd : dd ≤ 9 * st'.1) (hD : D < dd) : plX n st D (plCm st' s dd) := by
  obtain ⟨h1, h2, h3, h4, h5, h6⟩ := h
  obtain ⟨c1, c2, c3, c4⟩ := plCm_w h1 hs hd
  refine ⟨c1, Nat.le_trans h2 c2, fun k hk => (c3 k (by omega)).trans (h3 k hk), fun k hk hle => ?_, fun k hk hle => ?_, fun z => c4 (h6 z)⟩
  · by_cases hc : ∃ j, j < st'.1 ∧ st'.2.1 j = s
    · obtain ⟨j, hj, e⟩ := hc
      rw [plCm_f h1 hj e] at hk hle
      have hle : fU st'.2.2.1 j (min (st'.2.2.1 j) dd) k ≤ D := hle
      refine h4 k hk ?_
      by_cases z : k = j
      · subst z; rw [fU_at] at hle; omega
      · rw [fU_ne z] at hle; exact hle
    · rw [plCm_n (fun j hj e => hc ⟨j, hj, e⟩)] at hk hle
      by_cases y : st'.1 < 1000
      · rw [if_pos y] at hk hle
        have hk : k < st'.1 + 1 := hk
        have hle : fU st'.2.2.1 st'.1 dd k ≤ D := hle
        by_cases z : k = st'.1
        · rw [z, fU_at] at hle; omega
        · rw [fU_ne z] at hle; exact h4 k (by omega) hle
      · rw [if_neg y] at hk hle; exact h4 k hk hle
  · rw [plCm_d h1 (by omega) (by rw [h5 k hk hle]; omega), h5 k hk hle]
theorem plGo_x {st : PSt} {s : Sit} {D i : Nat} (hwf : wfN f n) (hk : kd ≤ 7) (hW : plW n st) (hs : okS n s) (hi : i < st.1) (hD : D ≤ 9 * i) : ∀ r, r ≤ n → plX n st D (plGo Rs f n kd lies D0 s D r st)
  | 0, _ => plX.rf hW
  | r + 1, hr => by
    have ih := plGo_x hwf hk hW hs hi hD r (by omega)
    obtain ⟨w1, w2, w3, w4, w5, w6, w7, w8, w9, w10⟩ := hwf.2 r (by omega)
    unfold plGo plRd
    split
    · have h2 := ih.2.1
      exact ih.cm (plN_ok hwf hk hs (by omega)) (by omega) (by omega)
    · exact ih
end PLG1
/-- the tale of a plan, but for its lasts -/
def tlI (I : am_I) (f : Nat → Int32) (n : Nat) : Prop := I 40 5 = f 0 ∧ I 40 6 = nI n ∧ I 40 7 = f 4 ∧ I 40 8 = f 6 ∧ ∀ j, j < n → I 41 j = f (7 + 5 * j) ∧ I 42 j = f (7 + 5 * j + 1) ∧ I 43 j = f (7 + 5 * j + 2) ∧ I 45 j = f (7 + 5 * j + 4)
theorem tlI_rd {I : am_I} {f : Nat → Int32} {n : Nat} {ls : List Nat} (h : tlI I f n) (h4 : ∀ j, j < n → I 44 j = nI (ls.getD j 0)) : rdR I 40 (fL f n ls) n := by
  obtain ⟨h1, h2, h3, h5, h6⟩ := h
  refine ⟨by rw [fL_o (by omega)]; exact h1, h2, by rw [fL_o (by omega)]; exact h3, by rw [fL_o (by omega)]; exact h5, fun j hj => ?_⟩
  obtain ⟨q1, q2, q3, q5⟩ := h6 j hj
  rw [fL_o (by omega), fL_o (by omega), fL_o (by omega), fL_3 hj, fL_o (by omega)]
  exact ⟨q1, q2, q3, h4 j hj, q5⟩
theorem tlI_fr {I I' : am_I} {f : Nat → Int32} {n : Nat} (h : ∀ a, 40 ≤ a → a ≤ 45 → a ≠ 44 → I' a = I a) (hT : tlI I f n) : tlI I' f n := by
  unfold tlI
  rw [h 40 (by omega) (by omega) (by omega), h 41 (by omega) (by omega) (by omega), h 42 (by omega) (by omega) (by omega), h 43 (by omega) (by omega) (by omega), h 45 (by omega) (by omega) (by omega)]
  exact hT
/-- what the planner was told -/
def tdI (I : am_I) (kd lies D0 : Nat) : Prop := I 36 8 = nI kd ∧ I 36 9 = nI lies ∧ I 36 10 = nI D0
section PLG
variable {d Lx : Nat} {ρ : List (Nat × Nat)} {Q : am_Q} {Rs : List (List (Nat × List Nat))}
theorem clP_fr {I I' : am_I} {L L' : am_L} {st : PSt} (h6 : ∀ k, k = 5 ∨ k = 6 ∨ k = 7 → I' 36 k = I 36 k) (h8 : I' 38 = I 38) (h9 : I' 39 = I 39) (h7 : L' 37 = L 37) (h : clP I L st) : clP I' L' st := by
  obtain ⟨p5, p2, p3, p7, mx, p6, pm, pd⟩ := h
  exact ⟨(h6 5 (by omega)).trans p5, by rw [h7, h8]; exact p2, by rw [h9]; exact p3, (h6 7 (by omega)).trans p7, mx, (h6 6 (by omega)).trans p6, pm, pd⟩
theorem gDs {ls : List Nat} {j v r : Nat} (hr : r < ls.length) : (ls.set r v).getD j 0 = if j = r then v else ls.getD j 0 := by
  rw [List.getD_eq_getElem?_getD, List.getD_eq_getElem?_getD, List.getElem?_set]
  by_cases h : r = j
  · subst h; rw [if_pos rfl, if_pos hr, if_pos rfl]; rfl
  · rw [if_neg h, if_neg (fun q => h q.symm)]
theorem lp_goR {I : am_I} {f : Nat → Int32} {n kd lies D0 D i : Nat} {s : Sit} {st : PSt} {x2 : Int64} (hwf : wfN f n) (hn : n ≤ 16) (hk : kd ≤ 7) (hl : lies < 10) (hD0 : D0 ≤ 9999) (hw : wfRs Rs) (hC : RCc I ρ Rs) (hW : plW n st) (hi : i < st.1) (hsi : st.2.1 i = s) (hdi : st.2.2.1 i = D)
    (h : ∀ I' L', (∀ a, ¬ (36 ≤ a ∧ a ≤ 45) → I' a = I a) → clP I' L' (plGo Rs f n kd lies D0 s D n st) → tlI I' f n → tdI I' kd lies D0 → Q none I' L' (gg Lx ρ)) : ∀ q r (I' : am_I) (L' : am_L) (x9 : Value), r + q = n → (∀ a, ¬ (36 ≤ a ∧ a ≤ 45) → I' a = I a) → clP I' L' (plGo Rs f n kd lies D0 s D r st) → tlI I' f n → (∀ j, j < n → I' 44 j = nI (s.2.2.getD j 0)) → tdI I' kd lies D0 →
    am_W am_all (am_run (d + 3)) e_Planner_goThrough Q 103 [.ref 36, .int (nI i), .long x2, .null, .int (nI s.1), .int (bI (s.2.1 = true)), .int (plK kd s), .int (nI (D0 + D)), .int (nI r), x9] [] I' L' (gg Lx ρ) 0 0
  | 0, r, I', L', x9, e, hf, hP, hT, h44, htd => by
    have e : r = n := e
    subst e
    have hno : ¬ nI r < I' 40 6 := by rw [hT.2.1]; exact nI_nlt (Nat.le_refl _) (by omega)
    exact sy_Planner_goThrough_103 (d := d + 1) _ _ _ _ _ _ _ _ (fun _ => h I' L' hf hP hT htd) (fun z => absurd z hno) (fun z => absurd z hno)
  | q + 1, r, I', L', x9, e, hf, hP, hT, h44, htd => by
    have hr : r < n := by omega
    have hs : okS n s := by rw [← hsi]; exact (hW.2.1 i hi).1
    have hDi : D ≤ 9 * i := by rw [← hdi]; exact (hW.2.1 i hi).2
    have hX := plGo_x (Rs := Rs) (kd := kd) (lies := lies) (D0 := D0) hwf hk hW hs hi hDi r (by omega)
    obtain ⟨w1, w2, w3, w4, w5, w6, w7, w8, w9, w10⟩ := hwf.2 r hr
    have hyes : nI r < I' 40 6 := by rw [hT.2.1]; exact nI_lt hr (by omega)
    have h16 : nI r < 16 := nI_lt (b := 16) (by omega) (by decide)
    have hC' : RCc I' ρ Rs := RCc_fr (hf 21 (by omega)) (fun a ha => hf a (by omega)) hC
    have hR := tlI_rd hT h44
    have hwL := wfN_fL hwf hs.2.2
    have er : (nI r).toNatClampNeg = r := nI_clamp (by omega)
    have h1000 := hW.1
    have ei : (nI i).toNatClampNeg = i := nI_clamp (by omega)
    have eD : (plGo Rs f n kd lies D0 s D r st).2.2.1 i = D := by rw [hX.2.2.2.2.1 i hi (by omega)]; exact hdi
    refine sy_Planner_goThrough_103 (d := d + 1) _ _ _ _ _ _ _ _ (fun z => absurd hyes z) (fun _ z => absurd h16 z) (fun _ _ => ?_)
    refine sp_Laws_broken (d := d) (r := 40) (by decide) hR hwL.1 hr (hwL.ne hr) hw hC' (fun L1 l1 => ?_)
    refine sy_Planner_goThrough_141 (d := d + 1) _ _ _ _ _ _ _ _ _ (fun _ => vp_in_nI (by omega) (by decide)) (fun z => ?_) (fun z => ?_)
    · have hpb := pBrk_0 z
      have htch : rA f r = s.1 ∨ rB f r = s.1 := by
        have hs10 := hs.1
        rw [fL_o (by omega), fL_o (by omega), w1, w3] at hpb
        exact hpb.imp (fun q => (nI_eq (by omega) (by omega)).mp q) (fun q => (nI_eq (by omega) (by omega)).mp q)
      refine sp_Laws_lastAfter (d := d) (r := 40) (by decide) hR hwL.1 hr hpb hw hC' (fun L2 l2 => ?_)
      obtain ⟨kk, hk7, ek⟩ := plK_n (s := s) hk
      obtain ⟨v, hv7, ev⟩ := pLst_n (Rs := Rs) (p := nI s.1) (dy := nI (D0 + D)) hwL hr ek hk7
      have hlen : r < s.2.2.length := by rw [hs.2.1]; exact hr
      refine sy_Planner_goThrough_187 (d := d + 1) _ _ _ _ _ _ _ _ 44 _ _ 17 rfl (vp_in_nI (by omega) (by decide)) (vp_in_nI (by omega) (by decide)) (vp_in_nI (by omega) (by decide)) ?_
      rw [er, ev]
      have hT2 : tlI (am_u I' 44 r (nI v)) f n := tlI_fr (fun a _ _ z => am_u_ne z) hT
      have h442 : ∀ j, j < n → am_u I' 44 r (nI v) 44 j = nI ((s.2.2.set r v).getD j 0) := fun j hj => by
        rw [gDs hlen]
        by_cases y : j = r
        · subst y; rw [am_u_at, if_pos rfl]
        · rw [am_u_nk y, if_neg y]; exact h44 j hj
      have hR2 := tlI_rd hT2 h442
      have h7s : ∀ x ∈ s.2.2.set r v, x ≤ 7 := fun x hx => by
        rcases List.mem_or_eq_of_mem_set hx with y | y
        · exact hs.2.2 x y
        · omega
      have eo : cAcr (am_u I' 44 r (nI v)) 40 (nI r) (nI s.1) = nI (plT f s r) := by
        have := otN_n hR2 (wfN_fL hwf h7s) hr hs.1 (by rw [rA_fL, rB_fL]; exact htch)
        rw [rA_fL, rB_fL] at this; exact this
      have ed : am_u I' 44 r (nI v) 38 (nI i).toNatClampNeg + am_u I' 44 r (nI v) 43 r = nI (D + rD f r) := by
        have := (hP.2.1 i (by have := hX.2.1; omega)).2
        rw [eD] at this
        rw [ei, am_u_ne (by decide), am_u_ne (by decide), this, (hT.2.2.2.2 r hr).2.2.1, w6, nI_add]
      rw [eo, ed]
      have hplN : (plT f s r, s.2.1 || decide (plT f s r = lies), s.2.2.set r v) = plN Rs f n kd lies D0 s D r := by unfold plN; rw [ev, nI_clamp (by omega)]
      have hgo : plGo Rs f n kd lies D0 s D (r + 1) st = plCm (plGo Rs f n kd lies D0 s D r st) (plT f s r, s.2.1 || decide (plT f s r = lies), s.2.2.set r v) (D + rD f r) := by
        rw [hplN]
        show plRd Rs f n kd lies D0 s D r _ = _
        unfold plRd; rw [if_pos z]
      have hX1 := hX.2.1
      have hX0 := hX.1.1
      refine sp_come (d := d + 1) (lies := lies) (ls := s.2.2.set r v) (b := s.2.1) hn (otN_lt hwf hr) hl (by rw [List.length_set]; exact hs.2.1) h7s hX.1 (clP_fr (fun k _ => by rw [am_u_ne (by decide)]) (am_u_ne (by decide)) (am_u_ne (by decide)) ((l2 37 (by decide) (by decide)).trans (l1 37 (by decide) (by decide))) hP) hT2.2.1 (fun j x hx => ?_) (by rw [am_u_ne (by decide)]; exact htd.2.1) (by omega) (by omega) (fun I3 L3 f3 g3 l3 P3 => ?_)
      · have hj : j < n := by
          have := (List.getElem?_eq_some_iff.mp hx).1
          rw [List.length_set, hs.2.1] at this; exact this
        rw [h442 j hj, List.getD_eq_getElem?_getD, hx]; rfl
      · rw [← hgo] at P3
        refine sy_Planner_goThrough_222 (d := d + 1) _ _ _ _ _ _ _ _ (vp_in_nI (by omega) (by decide)) ?_
        rw [er, nI_1]
        have F3 : ∀ a, a ≠ 36 → a ≠ 38 → a ≠ 39 → a ≠ 44 → am_u I3 44 r (I' 44 r) a = I' a := fun a z1 z2 z3 z4 => by rw [am_u_ne z4, f3 a z1 z2 z3, am_u_ne z4]
        refine lp_goR hwf hn hk hl hD0 hw hC hW hi hsi hdi h q (r + 1) _ L3 _ (by omega) (fun a z => by rw [F3 a (by omega) (by omega) (by omega) (by omega)]; exact hf a z) (clP_fr (fun k _ => by rw [am_u_ne (by decide)]) (am_u_ne (by decide)) (am_u_ne (by decide)) rfl P3) (tlI_fr (fun a h1 h2 h3 => F3 a (by omega) (by omega) (by omega) h3) hT) (fun j hj => ?_) ?_
        · by_cases y : j = r
          · subst y; rw [am_u_at]; exact h44 j hj
          · rw [am_u_nk y, f3 44 (by decide) (by decide) (by decide), am_u_nk y]; exact h44 j hj
        · obtain ⟨t1, t2, t3⟩ := htd
          refine ⟨?_, ?_, ?_⟩
          · rw [am_u_ne (by decide), g3 8 (by decide) (by decide) (by decide), am_u_ne (by decide)]; exact t1
          · rw [am_u_ne (by decide), g3 9 (by decide) (by decide) (by decide), am_u_ne (by decide)]; exact t2
          · rw [am_u_ne (by decide), g3 10 (by decide) (by decide) (by decide), am_u_ne (by decide)]; exact t3
    · rw [nI_1]
      have hgo : plGo Rs f n kd lies D0 s D (r + 1) st = plGo Rs f n kd lies D0 s D r st := by
        show plRd Rs f n kd lies D0 s D r _ = _
        unfold plRd; rw [if_neg z]
      exact lp_goR hwf hn hk hl hD0 hw hC hW hi hsi hdi h q (r + 1) I' L1 _ (by omega) hf (by rw [hgo]; exact clP_fr (fun _ _ => rfl) rfl rfl (l1 37 (by decide) (by decide)) hP) hT h44 htd
theorem eC_p {n : Nat} {s : Sit} (hs : okS n s) : eC s % 16 = s.1 ∧ eC s / 16 % 2 = b01 s.2.1 ∧ eC s / 32 = lsC s.2.2 := by
  have h1 := hs.1
  have h2 := b01_le s.2.1
  unfold eC
  omega
theorem hPh_n {L : am_L} {n i : Nat} {s : Sit} (hn : n ≤ 16) (hs : okS n s) (hi : i < 1000) (h : L 37 i = lN (eC s)) : (hPh L (nI i) ↔ s.2.1 = true) ∧ cPl L (nI i) = nI s.1 := by
  have hb := eC_lt hn hs
  obtain ⟨e1, e2, e3⟩ := eC_p hs
  unfold hPh cPl
  rw [nI_clamp (by omega), h]
  constructor
  · rw [show ((4 : Int32) = nI 4) from rfl, shrK (by decide) (by omega), wb_a1 (by omega), show eC s / 2 ^ 4 % 2 = b01 s.2.1 from e2]
    unfold b01
    cases s.2.1 with
    | true => exact ⟨fun _ => rfl, fun _ => by decide⟩
    | false => exact ⟨fun z => absurd rfl z, fun z => absurd z (by decide)⟩
  · rw [show (15 : Int64) = lN (2 ^ 4 - 1) from rfl, wb_mask (by omega) (by decide), lN_i, show eC s % 2 ^ 4 = s.1 from e1]
theorem lp_goL {I : am_I} {L : am_L} {f : Nat → Int32} {n i : Nat} {s : Sit} {x5 x6 x7 x8 x9 : Value} (hn : n ≤ 16) (hs : okS n s) (h406 : I 40 6 = nI n)
    (h : ∀ I', (∀ a, a ≠ 44 → I' a = I a) → (∀ j, j < n → I' 44 j = nI (s.2.2.getD j 0)) → ∀ (y5 y6 y7 y8 : Value), am_W am_all (am_run (d + 2)) e_Planner_goThrough Q 12 [.ref 36, .int (nI i), .long (lN (lsC s.2.2)), .null, .int (nI n), y5, y6, y7, y8, x9] [] I' L (gg Lx ρ) 0 0) : ∀ q j I', j + q = n → (∀ a, a ≠ 44 → I' a = I a) → (∀ k, k < j → I' 44 k = nI (s.2.2.getD k 0)) → am_W am_all (am_run (d + 2)) e_Planner_goThrough Q 12 [.ref 36, .int (nI i), .long (lN (lsC s.2.2)), .null, .int (nI j), x5, x6, x7, x8, x9] [] I' L (gg Lx ρ) 0 0
  | 0, j, I', e, hf, h4 => by
    have e : j = n := e
    subst e
    exact h I' hf h4 _ _ _ _
  | q + 1, j, I', e, hf, h4 => by
    have hyes : nI j < I' 40 6 := by rw [hf 40 (by decide), h406]; exact nI_lt (by omega) (by omega)
    have h16 : nI j < 16 := nI_lt (b := 16) (by omega) (by decide)
    have h8 := lsC_lt s.2.2 hs.2.2
    have hp := p8_16 hn
    rw [hs.2.1] at h8
    have ev : Int64.toInt32 ((lN (lsC s.2.2) >>> (Int32.toInt64 (3 * nI j) &&& 63)) &&& 7) = nI (s.2.2.getD j 0) := by
      rw [show ((3 : Int32) = nI 3) from rfl, pk_mul, shrK (by omega) (by omega), show (7 : Int64) = lN (2 ^ 3 - 1) from rfl, wb_mask (Nat.lt_of_le_of_lt (Nat.div_le_self _ _) (by omega)) (by decide), lN_i, Nat.pow_mul]
      congr 1
      exact lsC_dg s.2.2 j hs.2.2
    refine sy_Planner_goThrough_12 _ _ _ _ _ _ _ _ (fun z => absurd hyes z) (fun z => absurd hyes z) (fun z => absurd hyes z) (fun _ z => absurd h16 z) (fun _ z => absurd h16 z) (fun _ z => absurd h16 z) (fun _ _ => vp_in_nI (by omega) (by decide)) (fun _ _ => ?_)
    rw [ev, nI_clamp (by omega), nI_1]
    refine lp_goL (f := f) hn hs h406 h q (j + 1) _ (by omega) (fun a z => by rw [am_u_ne z]; exact hf a z) (fun k hk => ?_)
    by_cases y : k = j
    · subst y; rw [am_u_at]
    · rw [am_u_nk y]; exact h4 k (by omega)
theorem sp_goThrough {I : am_I} {L : am_L} {f : Nat → Int32} {n kd lies D0 D i : Nat} {st : PSt} (hwf : wfN f n) (hn : n ≤ 16) (hk : kd ≤ 7) (hl : lies < 10) (hD0 : D0 ≤ 9999) (hw : wfRs Rs) (hC : RCc I ρ Rs) (hW : plW n st) (hi : i < st.1) (hdi : st.2.2.1 i = D) (hP : clP I L st) (hT : tlI I f n) (htd : tdI I kd lies D0)
    (h : ∀ I' L', (∀ a, ¬ (36 ≤ a ∧ a ≤ 45) → I' a = I a) → clP I' L' (plGo Rs f n kd lies D0 (st.2.1 i) D n st) → tlI I' f n → tdI I' kd lies D0 → Q none I' L' (gg Lx ρ)) : am_run (d + 4) m_Planner_goThrough [.ref 36, .int (nI i)] I L (gg Lx ρ) Q := by
  have h1000 := hW.1
  have hs := (hW.2.1 i hi).1
  have hb := eC_lt hn hs
  have ei : (nI i).toNatClampNeg = i := nI_clamp (by omega)
  have eL := (hP.2.1 i hi).1
  obtain ⟨e1, e2, e3⟩ := eC_p hs
  refine run_in rfl rfl ⟨rfl, rfl⟩ (sy_Planner_goThrough_0 (d := d + 1) _ (vp_in_nI (by omega) (by decide)) ?_)
  rw [ei, eL, show ((5 : Int32) = nI 5) from rfl, shrK (by decide) (by omega), show eC (st.2.1 i) / 2 ^ 5 = lsC (st.2.1 i).2.2 from e3]
  refine lp_goL (d := d + 1) (f := f) hn hs hT.2.1 (fun I1 f1 v1 y5 y6 y7 y8 => ?_) n 0 I (by omega) (fun _ _ => rfl) (fun k hk => absurd hk (by omega))
  have hno : ¬ nI n < I1 40 6 := by rw [f1 40 (by decide), hT.2.1]; exact nI_nlt (Nat.le_refl _) (by omega)
  obtain ⟨hh, hc⟩ := hPh_n hn hs (by omega) eL
  have hC1 : RCc I1 ρ Rs := RCc_fr (f1 21 (by decide)) (fun a ha => f1 a (by omega)) hC
  have hP1 : clP I1 L st := clP_fr (fun k _ => by rw [f1 36 (by decide)]) (f1 38 (by decide)) (f1 39 (by decide)) rfl hP
  have hT1 : tlI I1 f n := tlI_fr (fun a _ _ z => f1 a z) hT
  have htd1 : tdI I1 kd lies D0 := by unfold tdI; rw [f1 36 (by decide)]; exact htd
  have e7 : I1 36 10 + I1 38 i = nI (D0 + D) := by rw [htd1.2.2, (hP1.2.1 i hi).2, hdi, nI_add]
  have main : ∀ x6 : Int32, x6 = plK kd (st.2.1 i) → ∀ x9 : Value, am_W am_all (am_run (d + 3)) e_Planner_goThrough Q 103 [.ref 36, .int (nI i), .long (lN (lsC (st.2.1 i).2.2)), .null, .int (cPl L (nI i)), .int (bI (hPh L (nI i))), .int x6, .int (I1 36 10 + I1 38 (nI i).toNatClampNeg), .int 0, x9] [] I1 L (gg Lx ρ) 0 0 := by
    intro x6 ex x9
    subst ex
    have eb : bI (hPh L (nI i)) = bI ((st.2.1 i).2.1 = true) := by
      by_cases z : (st.2.1 i).2.1 = true
      · rw [bI_t z, bI_t (hh.mpr z)]
      · rw [bI_f z, bI_f (fun q => z (hh.mp q))]
    rw [hc, eb, ei, e7]
    exact lp_goR (I := I1) hwf hn hk hl hD0 hw hC1 hW hi rfl hdi (fun I2 L2 f2 P2 T2 t2 => h I2 L2 (fun a z => by rw [f2 a z]; exact f1 a (by omega)) P2 T2 t2) n 0 I1 L _ (by omega) (fun _ _ => rfl) hP1 hT1 v1 htd1
  refine sy_Planner_goThrough_12 (d := d + 1) _ _ _ _ _ _ _ _ (fun _ => vp_in_nI (by omega) (by decide)) (fun _ z => main 0 ?_ _) (fun _ z => main _ ?_ _) (fun z => absurd z hno) (fun z => absurd z hno) (fun z => absurd z hno) (fun z => absurd z hno) (fun z => absurd z hno)
  · unfold plK; rw [if_neg (fun q => z (hh.mpr q))]
  · unfold plK; rw [if_pos (hh.mp z), htd1.1]
end PLG
