/-! ===== drives, takes, lays, found, seed, force ===== -/
section DRV
variable {d Lx : Nat} {ρ : List (Nat × Nat)} {Q : am_Q} {Rs : List (List (Nat × List Nat))}
theorem wfS_c {f f' : Nat → Int32} {P n C m : Nat} (h : wfS Rs f P n C m) (h0 : ∀ i, i < 4 → f' i = f i) (h5 : ¬ f' 5 < 0) (h6 : foR Rs (f' 6)) (hN : wfN f' n) (hc : ∀ c, c < C → f' (92 + 3 * c) = nI (cS f' c) ∧ cS f' c < 10 ∧ (f' (92 + 3 * c + 1) = -1 ∨ ∃ l, l < m ∧ f' (92 + 3 * c + 1) = nI l) ∧ f' (92 + 3 * c + 2) = nI (cD f' c) ∧ cD f' c ≤ 9999) (hl : wfL f' P m) (hs : ∀ r, r < n → f' (136 + r) = -1 ∨ ¬ f' (136 + r) < 0) : wfS Rs f' P n C m :=
  ⟨(h0 0 (by omega)).trans h.P.1, h.P.2, (h0 1 (by omega)).trans h.n.1, h.n.2.1, hN, (h0 2 (by omega)).trans h.C.1, h.C.2, (h0 3 (by omega)).trans h.m.1, h.m.2, h6, h5, hc, hl, hs⟩
theorem wfN_c {f f' : Nat → Int32} {n : Nat} (h : wfN f n) (hn : n ≤ 16) (hf : ∀ i, 7 ≤ i → i < 92 → f' i = f i) : wfN f' n := by
  refine ⟨h.1, fun j hj => ?_⟩
  have w := h.2 j hj
  unfold rA rB rD rL at w ⊢
  rw [hf (7 + 5 * j) (by omega) (by omega), hf (7 + 5 * j + 1) (by omega) (by omega), hf (7 + 5 * j + 2) (by omega) (by omega), hf (7 + 5 * j + 3) (by omega) (by omega)]
  exact w
theorem wfL_c {f f' : Nat → Int32} {P m : Nat} (h : wfL f P m) (hf : ∀ i, 104 ≤ i → i < 136 → f' i = f i) (hm : m ≤ 8) : wfL f' P m := by
  intro l hl
  have w := h l hl
  unfold lK lP lG lW at w ⊢
  rw [hf (104 + 4 * l) (by omega) (by omega), hf (104 + 4 * l + 1) (by omega) (by omega), hf (104 + 4 * l + 2) (by omega) (by omega), hf (104 + 4 * l + 3) (by omega) (by omega)]
  exact w
theorem wfc_c {f f' : Nat → Int32} {C m : Nat} (hC : C ≤ 4) (h : ∀ c, c < C → f (92 + 3 * c) = nI (cS f c) ∧ cS f c < 10 ∧ (f (92 + 3 * c + 1) = -1 ∨ ∃ l, l < m ∧ f (92 + 3 * c + 1) = nI l) ∧ f (92 + 3 * c + 2) = nI (cD f c) ∧ cD f c ≤ 9999) (hf : ∀ i, 92 ≤ i → i < 104 → f' i = f i) : ∀ c, c < C → f' (92 + 3 * c) = nI (cS f' c) ∧ cS f' c < 10 ∧ (f' (92 + 3 * c + 1) = -1 ∨ ∃ l, l < m ∧ f' (92 + 3 * c + 1) = nI l) ∧ f' (92 + 3 * c + 2) = nI (cD f' c) ∧ cD f' c ≤ 9999 := by
  intro c hc
  have w := h c hc
  unfold cS cD at w ⊢
  rw [hf (92 + 3 * c) (by omega) (by omega), hf (92 + 3 * c + 1) (by omega) (by omega), hf (92 + 3 * c + 2) (by omega) (by omega)]
  exact w
/-- the kind of what a carter carries -/
def pDk (f : Nat → Int32) (c : Nat) : Int32 := if f (92 + 3 * c + 1) < 0 then 0 else f (104 + 4 * (f (92 + 3 * c + 1)).toNatClampNeg)
def pDr1 (Rs : List (List (Nat × List Nat))) (f : Nat → Int32) (c j : Nat) : Int32 × (Nat → Int32) :=
  if pBrk Rs f j (f (92 + 3 * c)) (pDk f c) (f (92 + 3 * c + 2)) = 0 then (if 9999 < f (92 + 3 * c + 2) + f (7 + 5 * j + 2) then (-2, f) else (oth f j (f (92 + 3 * c)), up1 (up1 (nt f j (pLst Rs f j (f (92 + 3 * c)) (pDk f c) (f (92 + 3 * c + 2)))) (92 + 3 * c) (oth f j (f (92 + 3 * c)))) (92 + 3 * c + 2) (f (92 + 3 * c + 2) + f (7 + 5 * j + 2)))) else ((-2) - pBrk Rs f j (f (92 + 3 * c)) (pDk f c) (f (92 + 3 * c + 2)), f)
def pDr (Rs : List (List (Nat × List Nat))) (f : Nat → Int32) (n C : Nat) (x y : Int32) : Int32 × (Nat → Int32) := if vN C x ∧ vN n y then pDr1 Rs f x.toNatClampNeg y.toNatClampNeg else (-1, f)
theorem pBrk_v (Rs : List (List (Nat × List Nat))) (f : Nat → Int32) (j : Nat) (p k dy : Int32) : pBrk Rs f j p k dy = 0 ∨ 0 < pBrk Rs f j p k dy := by
  unfold pBrk
  split
  · split
    · exact Or.inr (by decide)
    · split
      · exact Or.inr (by decide)
      · exact Or.inl rfl
  · exact Or.inr (by decide)
theorem pBrk_0 {f : Nat → Int32} {j : Nat} {p k dy : Int32} (h : pBrk Rs f j p k dy = 0) : f (7 + 5 * j) = p ∨ f (7 + 5 * j + 1) = p := by
  unfold pBrk at h
  by_cases e : f (7 + 5 * j) = p ∨ f (7 + 5 * j + 1) = p
  · exact e
  · rw [if_neg e] at h; exact absurd h (by decide)
theorem pDk_n {f : Nat → Int32} {P n C m c : Nat} (hwS : wfS Rs f P n C m) (hc : c < C) : ∃ kk, kk ≤ 7 ∧ pDk f c = nI kk := by
  unfold pDk
  rcases (hwS.c c hc).2.2.1 with e | ⟨l, hl, e⟩
  · rw [e, if_pos (by decide)]; exact ⟨0, by omega, rfl⟩
  · have hm := hwS.m
    obtain ⟨g1, g2, g3, _⟩ := hwS.l l hl
    rw [e, if_neg (nI_pos (by omega)), nI_clamp (by omega)]
    exact ⟨_, g3, g1⟩
theorem cKc_n {I : am_I} {f : Nat → Int32} {P n C m c : Nat} (hS : stS I 94 f n C m) (hwS : wfS Rs f P n C m) (hc : c < C) : cKc I 94 (nI c) = pDk f c := by
  have hm := hwS.m
  have hC := hwS.C
  unfold cKc pDk
  obtain ⟨q1, q2, q3⟩ := hS.2.2.2.2.1 c hc
  rw [nI_clamp (by omega), q2]
  have hca : hCa I 94 (nI c) := (hCa_v hS hC.2).mpr ⟨nI_pos (by omega), nI_lt hc (by omega)⟩
  rcases (hwS.c c hc).2.2.1 with e | ⟨l, hl, e⟩
  · rw [e, if_neg (fun z => nvN ((hLo_v hS hm.2).mp z.2)), if_pos (by decide)]
  · obtain ⟨p1, p2, p3, p4⟩ := hS.2.2.2.2.2.1 l hl
    rw [e, if_pos ⟨hca, hLo_n hS hl hm.2⟩, if_neg (nI_pos (by omega)), nI_clamp (by omega), p1]
theorem sp_LL_drive {I : am_I} {L : am_L} {f : Nat → Int32} {P n C m : Nat} {x y : Int32} (hS : stS I 94 f n C m) (hwS : wfS Rs f P n C m) (hw : wfRs Rs) (hRC : RCc I ρ Rs)
    (h : ∀ I' L', frN I I' → stS I' 94 (pDr Rs f n C x y).2 n C m → Q (some (.int (pDr Rs f n C x y).1)) I' L' (gg Lx ρ)) : am_run (d + 4) m_LL_drive [.ref 12, .int x, .int y] I L (gg Lx ρ) Q := by
  obtain ⟨hn1, hn16, hwf⟩ := hwS.n
  have hC := hwS.C
  have hv := hRd_v (x := y) hS.1 (by omega)
  have hvc := hCa_v (x := x) hS hC.2
  unfold pDr at h
  refine run_in rfl rfl ⟨rfl, rfl⟩ (sy_LL_drive_0 (d := d + 1) _ _ (fun z => ?_) (fun z _ => vin z.1 z.2.2 rfl (by decide)) (fun z z2 => ?_) (fun _ z => ?_))
  · rw [if_neg (fun q => z (hvc.mpr q.1))] at h; exact h I L frN.rf hS
  · rw [if_pos ⟨hvc.mp z, hv.mp z2⟩] at h
    obtain ⟨c, hc, rfl⟩ := ix_lt (by omega) (hvc.mp z).1 (hvc.mp z).2
    obtain ⟨j, hj, rfl⟩ := ix_lt (by omega) (hv.mp z2).1 (hv.mp z2).2
    have ec : (nI c).toNatClampNeg = c := nI_clamp (by omega)
    have ej : (nI j).toNatClampNeg = j := nI_clamp (by omega)
    rw [ec, ej] at h
    obtain ⟨q1, q2, q3⟩ := hS.2.2.2.2.1 c hc
    obtain ⟨a1, a2, a3, a4, a5⟩ := hS.1.2.2.2.2 j hj
    have v17 : vp_in (nI j) 17 := vp_in_nI (by omega) (by decide)
    rw [ec, q1, q3, cKc_n hS hwS hc]
    unfold pDr1 at h
    refine sp_Laws_broken (d := d) (r := 95) (by decide) hS.1 (by omega) hj (hwf.ne hj) hw hRC (fun L1 l1 => ?_)
    refine sy_LL_drive_76 (d := d + 1) _ _ 95 _ _ _ _ _ _ (by decide) (fun _ => v17) (fun y1 y2 => ?_) (fun y1 y2 => ?_) (fun y1 => ?_)
    · rw [if_pos y1] at h
      rw [ej, a3] at y2
      rw [if_neg y2] at h
      dsimp only at h
      refine sp_Laws_lastAfter (d := d) (r := 95) (by decide) hS.1 (by omega) hj (pBrk_0 y1) hw hRC (fun L2 l2 => sy_LL_drive_122 (d := d + 1) _ _ 95 _ _ _ _ _ _ (by decide) ?_)
      refine sp_Roads_note (d := d + 1) (r := 95) (by decide) hS.1 (by omega) hj (fun I3 f3 hR3 => ?_)
      have eo : ∀ v, cAcr (am_u I3 103 (nI c).toNatClampNeg v) 95 (nI j) (f (92 + 3 * c)) = oth f j (f (92 + 3 * c)) := by
        intro v
        rw [cAcr_n (rdR_fr (fun a g1 g2 => by rw [am_u_ne (by omega)]) hR3) (by omega) hj, nt_o (by omega) (by omega) (by omega), nt_o (by omega) (by omega) (by omega)]
        unfold oth
        by_cases e1 : f (7 + 5 * j) = f (92 + 3 * c)
        · rw [if_pos e1, if_pos e1]
        · rw [if_neg e1, if_neg e1, if_pos ((pBrk_0 y1).resolve_left e1)]
      refine sy_LL_drive_131 (d := d + 1) _ _ 95 _ _ _ _ _ (by decide) v17 (vp_in_nI (by omega) (by decide)) ?_
      have ed : I3 98 (nI j).toNatClampNeg = f (7 + 5 * j + 2) := by rw [f3 98 (by decide), ej, a3]
      show Q (some (.int ((am_u (am_u I3 103 (nI c).toNatClampNeg (f (92 + 3 * c + 2) + I3 98 (nI j).toNatClampNeg)) 101 (nI c).toNatClampNeg (cAcr (am_u I3 103 (nI c).toNatClampNeg (f (92 + 3 * c + 2) + I3 98 (nI j).toNatClampNeg)) 95 (nI j) (f (92 + 3 * c)))) 101 (nI c).toNatClampNeg))) _ L2 (gg Lx ρ)
      rw [eo, ed, ec, am_u_at]
      have fN : frN I I3 := fun a z => f3 a (by simp; omega)
      refine h _ L2 ((fN.u (by omega)).u (by omega)) ⟨?_, ?_, ?_, ?_, ?_, ?_, ?_⟩
      · have hR4 : rdR (am_u (am_u I3 103 c (f (92 + 3 * c + 2) + f (7 + 5 * j + 2))) 101 c (oth f j (f (92 + 3 * c)))) 95 (nt f j (pLst Rs f j (f (92 + 3 * c)) (pDk f c) (f (92 + 3 * c + 2)))) n := rdR_fr (fun a g1 g2 => by rw [am_u_ne (by omega), am_u_ne (by omega)]) hR3
        refine ⟨?_, hR4.2.1, ?_, ?_, fun i hi => ?_⟩
        · rw [up1_ne (by omega), up1_ne (by omega)]; exact hR4.1
        · rw [up1_ne (by omega), up1_ne (by omega)]; exact hR4.2.2.1
        · rw [up1_ne (by omega), up1_ne (by omega)]; exact hR4.2.2.2.1
        · rw [up1_ne (by omega), up1_ne (by omega), up1_ne (by omega), up1_ne (by omega), up1_ne (by omega), up1_ne (by omega), up1_ne (by omega), up1_ne (by omega), up1_ne (by omega), up1_ne (by omega)]
          exact hR4.2.2.2.2 i hi
      · rw [am_u_ne (by decide), am_u_ne (by decide), f3 94 (by decide)]; exact hS.2.1
      · rw [am_u_ne (by decide), am_u_ne (by decide), f3 94 (by decide)]; exact hS.2.2.1
      · rw [am_u_ne (by decide), am_u_ne (by decide), f3 94 (by decide), up1_ne (by omega), up1_ne (by omega), nt_o (by omega) (by omega) (by omega)]; exact hS.2.2.2.1
      · intro e he
        obtain ⟨r1, r2, r3⟩ := hS.2.2.2.2.1 e he
        refine ⟨?_, ?_, ?_⟩
        · rw [up1_ne (by omega)]
          by_cases z : e = c
          · subst z; rw [am_u_at, up1_at]
          · rw [am_u_nk z, am_u_ne (by decide), f3 101 (by decide), up1_ne (by omega), nt_o (by omega) (by omega) (by omega)]; exact r1
        · rw [am_u_ne (by decide), am_u_ne (by decide), f3 102 (by decide), up1_ne (by omega), up1_ne (by omega), nt_o (by omega) (by omega) (by omega)]; exact r2
        · rw [am_u_ne (by decide)]
          by_cases z : e = c
          · subst z; rw [am_u_at, up1_at]
          · rw [am_u_nk z, f3 103 (by decide), up1_ne (by omega), up1_ne (by omega), nt_o (by omega) (by omega) (by omega)]; exact r3
      · intro l hl
        have r := hS.2.2.2.2.2.1 l hl
        have g : ∀ a, 104 ≤ a → am_u (am_u I3 103 c (f (92 + 3 * c + 2) + f (7 + 5 * j + 2))) 101 c (oth f j (f (92 + 3 * c))) a = I a := fun a ha => by rw [am_u_ne (by omega), am_u_ne (by omega), f3 a (by simp; omega)]
        have gf : ∀ i, 104 ≤ i → up1 (up1 (nt f j (pLst Rs f j (f (92 + 3 * c)) (pDk f c) (f (92 + 3 * c + 2)))) (92 + 3 * c) (oth f j (f (92 + 3 * c)))) (92 + 3 * c + 2) (f (92 + 3 * c + 2) + f (7 + 5 * j + 2)) i = f i := fun i hi => by rw [up1_ne (by omega), up1_ne (by omega), nt_o (by omega) (by omega) (by omega)]
        rw [g _ (by omega), g _ (by omega), g _ (by omega), g _ (by omega), gf _ (by omega), gf _ (by omega), gf _ (by omega), gf _ (by omega)]
        exact r
      · intro e he
        rw [am_u_ne (by omega), am_u_ne (by omega), f3 _ (by simp), up1_ne (by omega), up1_ne (by omega), nt_o (by omega) (by omega) (by omega)]
        exact hS.2.2.2.2.2.2 e he
    · rw [if_pos y1] at h
      rw [ej, a3] at y2
      rw [if_pos y2] at h
      exact h I L1 frN.rf hS
    · rw [if_neg y1] at h
      exact h I L1 frN.rf hS
  · rw [if_neg (fun q => z (hv.mpr q.2))] at h; exact h I L frN.rf hS
end DRV
