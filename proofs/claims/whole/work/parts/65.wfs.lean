/-! ===== what is done by hand keeps the state well formed ===== -/
section WFS
variable {Rs : List (List (Nat × List Nat))}
theorem stS_cg {I : am_I} {s n C m : Nat} {f f' : Nat → Int32} (hn : n ≤ 16) (hC : C ≤ 4) (hm : m ≤ 8) (h : ∀ i, i < 152 → f' i = f i) (hS : stS I s f n C m) : stS I s f' n C m := by
  obtain ⟨⟨g1, g2, g3, g4, g5⟩, h2, h3, h4, h5, h6, h7⟩ := hS
  refine ⟨⟨?_, g2, ?_, ?_, fun j hj => ?_⟩, h2, h3, ?_, fun c hc => ?_, fun l hl => ?_, fun r hr => ?_⟩
  · rw [h 0 (by omega)]; exact g1
  · rw [h 4 (by omega)]; exact g3
  · rw [h 6 (by omega)]; exact g4
  · rw [h _ (by omega), h _ (by omega), h _ (by omega), h _ (by omega), h _ (by omega)]; exact g5 j hj
  · rw [h 5 (by omega)]; exact h4
  · rw [h _ (by omega), h _ (by omega), h _ (by omega)]; exact h5 c hc
  · rw [h _ (by omega), h _ (by omega), h _ (by omega), h _ (by omega)]; exact h6 l hl
  · rw [h _ (by omega)]; exact h7 r hr
theorem wfS_cg {P n C m : Nat} {f f' : Nat → Int32} (h : ∀ i, i < 152 → f' i = f i) (hS : wfS Rs f P n C m) : wfS Rs f' P n C m := by
  have hn := hS.n
  have hC := hS.C
  have hm := hS.m
  refine wfS_c hS (fun i hi => h i (by omega)) (by rw [h 5 (by omega)]; exact hS.x) (by rw [h 6 (by omega)]; exact hS.fo) (wfN_c hn.2.2 hn.2.1 (fun i _ h2 => h i (by omega))) (wfc_c hC.2 hS.c (fun i _ h2 => h i (by omega))) (wfL_c hS.l (fun i _ h2 => h i (by omega)) hm.2) (fun r hr => ?_)
  rw [h _ (by omega)]; exact hS.s r hr
theorem foR_add {Rs' : List (List (Nat × List Nat))} {fo : Int32} (h : foR Rs fo) (hl : ∀ (k : Nat) (R : List (Nat × List Nat)), Rs[k]? = some R → Rs'[k]? = some R) : foR Rs' fo := fun z => by
  obtain ⟨k, R, h1, h2, h3⟩ := h z
  exact ⟨k, R, h1, h2, hl k R h3⟩
theorem wfS_add {Rs' : List (List (Nat × List Nat))} {P n C m : Nat} {f : Nat → Int32} (hl : ∀ (k : Nat) (R : List (Nat × List Nat)), Rs[k]? = some R → Rs'[k]? = some R) (h : wfS Rs f P n C m) : wfS Rs' f P n C m :=
  ⟨h.P.1, h.P.2, h.n.1, h.n.2.1, h.n.2.2, h.C.1, h.C.2, h.m.1, h.m.2, foR_add h.fo hl, h.x, h.c, h.l, h.s⟩
theorem pLst_n {f : Nat → Int32} {n j kk : Nat} {p k dy : Int32} (hwf : wfN f n) (hj : j < n) (hk : k = nI kk) (hk7 : kk ≤ 7) : ∃ q, q ≤ 7 ∧ pLst Rs f j p k dy = nI q := by
  unfold pLst
  obtain ⟨w1, w2, w3, w4, w5, w6, w7, w8, w9, w10⟩ := hwf.2 j hj
  by_cases e : k = 0
  · rw [if_pos e]
    split
    · exact ⟨0, by omega, rfl⟩
    · exact ⟨_, w10, w9⟩
  · rw [if_neg e]; exact ⟨kk, hk7, hk⟩
theorem wfS_pDr {f : Nat → Int32} {P n C m : Nat} {x y : Int32} (h : wfS Rs f P n C m) : wfS Rs (pDr Rs f n C x y).2 P n C m := by
  unfold pDr
  by_cases hv : vN C x ∧ vN n y
  · rw [if_pos hv]
    have hn := h.n
    have hC := h.C
    have hm := h.m
    obtain ⟨c, hc, rfl⟩ := ix_lt (by omega) hv.1.1 hv.1.2
    obtain ⟨j, hj, rfl⟩ := ix_lt (by omega) hv.2.1 hv.2.2
    rw [nI_clamp (by omega), nI_clamp (by omega)]
    unfold pDr1
    by_cases e1 : pBrk Rs f j (f (92 + 3 * c)) (pDk f c) (f (92 + 3 * c + 2)) = 0
    · rw [if_pos e1]
      by_cases e2 : 9999 < f (92 + 3 * c + 2) + f (7 + 5 * j + 2)
      · rw [if_pos e2]; exact h
      · rw [if_neg e2]
        show wfS Rs (up1 (up1 (nt f j (pLst Rs f j (f (92 + 3 * c)) (pDk f c) (f (92 + 3 * c + 2)))) (92 + 3 * c) (oth f j (f (92 + 3 * c)))) (92 + 3 * c + 2) (f (92 + 3 * c + 2) + f (7 + 5 * j + 2))) P n C m
        obtain ⟨kk, hk7, ek⟩ := pDk_n h hc
        obtain ⟨q, hq7, eq⟩ := pLst_n (Rs := Rs) (p := f (92 + 3 * c)) (dy := f (92 + 3 * c + 2)) hn.2.2 hj ek hk7
        obtain ⟨w1, w2, w3, w4, w5, w6, w7, w8, w9, w10⟩ := hn.2.2.2 j hj
        obtain ⟨c1, c2, c3, c4, c5⟩ := h.c c hc
        have hG : ∀ i, i ≠ 92 + 3 * c → i ≠ 92 + 3 * c + 2 → up1 (up1 (nt f j (pLst Rs f j (f (92 + 3 * c)) (pDk f c) (f (92 + 3 * c + 2)))) (92 + 3 * c) (oth f j (f (92 + 3 * c)))) (92 + 3 * c + 2) (f (92 + 3 * c + 2) + f (7 + 5 * j + 2)) i = nt f j (pLst Rs f j (f (92 + 3 * c)) (pDk f c) (f (92 + 3 * c + 2))) i := fun i z1 z2 => by rw [up1_ne z2, up1_ne z1]
        have hF : ∀ i, i < 4 ∨ i = 5 ∨ i = 6 ∨ 92 ≤ i → nt f j (pLst Rs f j (f (92 + 3 * c)) (pDk f c) (f (92 + 3 * c + 2))) i = f i := fun i z => nt_o (by omega) (by omega) (by omega)
        have eo : ∃ p, p < 10 ∧ oth f j (f (92 + 3 * c)) = nI p := by
          unfold oth
          split
          · exact ⟨_, w4, w3⟩
          · exact ⟨_, w2, w1⟩
        have ed : ∃ p, p ≤ 9999 ∧ f (92 + 3 * c + 2) + f (7 + 5 * j + 2) = nI p := by
          rw [c4, w6, nI_add] at e2 ⊢
          exact ⟨_, Classical.byContradiction fun z => e2 (nI_lt (a := 9999) (by omega) (by omega)), rfl⟩
        obtain ⟨p, hp, ep⟩ := eo
        obtain ⟨dd, hd, ed⟩ := ed
        refine wfS_c h (fun i hi => by rw [hG i (by omega) (by omega), hF i (by omega)]) (by rw [hG 5 (by omega) (by omega), hF 5 (by omega)]; exact h.x) (by rw [hG 6 (by omega) (by omega), hF 6 (by omega)]; exact h.fo) (wfN_c (wfN_nt hn.2.2 eq hq7) hn.2.1 (fun i _ z => hG i (by omega) (by omega))) (fun e he => ?_) (wfL_c h.l (fun i z1 z2 => by rw [hG i (by omega) (by omega), hF i (by omega)]) hm.2) (fun r hr => by rw [hG _ (by omega) (by omega), hF _ (by omega)]; exact h.s r hr)
        unfold cS cD
        by_cases z : e = c
        · subst z
          rw [up1_ne (i := 92 + 3 * e + 2) (k := 92 + 3 * e) (by omega), up1_at, hG (92 + 3 * e + 1) (by omega) (by omega), hF (92 + 3 * e + 1) (by omega), up1_at, ep, ed, nI_clamp (by omega), nI_clamp (by omega)]
          exact ⟨rfl, hp, c3, rfl, hd⟩
        · have w := h.c e he
          unfold cS cD at w
          rw [hG (92 + 3 * e) (by omega) (by omega), hG (92 + 3 * e + 1) (by omega) (by omega), hG (92 + 3 * e + 2) (by omega) (by omega), hF (92 + 3 * e) (by omega), hF (92 + 3 * e + 1) (by omega), hF (92 + 3 * e + 2) (by omega)]
          exact w
    · rw [if_neg e1]; exact h
  · rw [if_neg hv]; exact h
/-- one carter's load and one load's place -/
theorem wfS_two {f : Nat → Int32} {P n C m c l : Nat} {v w : Int32} (h : wfS Rs f P n C m) (hc : c < C) (hl : l < m) (hv : v = -1 ∨ ∃ l, l < m ∧ v = nI l) (hw : w = -1 ∨ ∃ p, p < 10 ∧ w = nI p) : wfS Rs (up1 (up1 f (92 + 3 * c + 1) v) (104 + 4 * l + 1) w) P n C m := by
  have hn := h.n
  have hC := h.C
  have hm := h.m
  have hG : ∀ i, i ≠ 92 + 3 * c + 1 → i ≠ 104 + 4 * l + 1 → up1 (up1 f (92 + 3 * c + 1) v) (104 + 4 * l + 1) w i = f i := fun i z1 z2 => by rw [up1_ne z2, up1_ne z1]
  refine wfS_c h (fun i hi => hG i (by omega) (by omega)) (by rw [hG 5 (by omega) (by omega)]; exact h.x) (by rw [hG 6 (by omega) (by omega)]; exact h.fo) (wfN_c hn.2.2 hn.2.1 (fun i _ z => hG i (by omega) (by omega))) (fun e he => ?_) (fun e he => ?_) (fun r hr => by rw [hG _ (by omega) (by omega)]; exact h.s r hr)
  · obtain ⟨c1, c2, c3, c4, c5⟩ := h.c e he
    unfold cS cD at *
    rw [hG (92 + 3 * e) (by omega) (by omega), hG (92 + 3 * e + 2) (by omega) (by omega)]
    refine ⟨c1, c2, ?_, c4, c5⟩
    by_cases z : e = c
    · subst z; rw [up1_ne (by omega), up1_at]; exact hv
    · rw [hG _ (by omega) (by omega)]; exact c3
  · obtain ⟨c1, c2, c3, c4, c5, c6, c7, c8⟩ := h.l e he
    unfold lK lP lG lW at *
    rw [hG (104 + 4 * e) (by omega) (by omega), hG (104 + 4 * e + 2) (by omega) (by omega), hG (104 + 4 * e + 3) (by omega) (by omega)]
    refine ⟨c1, c2, c3, ?_, c5, c6, c7, c8⟩
    by_cases z : e = l
    · subst z; rw [up1_at]
      rcases hw with hw | ⟨p, hp, hw⟩
      · exact Or.inl hw
      · rw [hw, nI_clamp (by omega)]; exact Or.inr ⟨rfl, hp⟩
    · rw [hG _ (by omega) (by omega)]; exact c4
theorem wfS_pTk {f : Nat → Int32} {P n C m : Nat} {x y : Int32} (h : wfS Rs f P n C m) : wfS Rs (pTk f C m x y).2 P n C m := by
  unfold pTk
  split
  · next z =>
    have hC := h.C
    have hm := h.m
    obtain ⟨c, hc, rfl⟩ := ix_lt (by omega) z.1.1 z.1.2
    obtain ⟨l, hl, rfl⟩ := ix_lt (by omega) z.2.1.1 z.2.1.2
    rw [nI_clamp (by omega), nI_clamp (by omega)]
    exact wfS_two h hc hl (Or.inr ⟨l, hl, rfl⟩) (Or.inl rfl)
  · exact h
theorem wfS_pLy {f : Nat → Int32} {P n C m : Nat} {x : Int32} (h : wfS Rs f P n C m) : wfS Rs (pLy f C x).2 P n C m := by
  unfold pLy
  split
  · next z =>
    have hC := h.C
    have hm := h.m
    obtain ⟨c, hc, rfl⟩ := ix_lt (by omega) z.1.1 z.1.2
    have z2 := z.2
    rw [nI_clamp (by omega)] at z2 ⊢
    obtain ⟨c1, c2, c3, c4, c5⟩ := h.c c hc
    obtain ⟨l, hl, el⟩ := c3.resolve_left z2
    show wfS Rs (up1 (up1 f (104 + 4 * (f (92 + 3 * c + 1)).toNatClampNeg + 1) (f (92 + 3 * c))) (92 + 3 * c + 1) (-1)) P n C m
    rw [el, nI_clamp (by omega), up1_comm (by omega)]
    exact wfS_two h hc hl (Or.inl rfl) (Or.inr ⟨_, c2, c1⟩)
  · exact h
theorem wfS_pFo {f : Nat → Int32} {P n C m : Nat} {x v : Int32} (h : wfS Rs f P n C m) : wfS Rs (pFo f n x v).2 P n C m := by
  unfold pFo
  split
  · next z =>
    have hn := h.n
    have hC := h.C
    have hm := h.m
    obtain ⟨r, hr, rfl⟩ := ix_lt (by omega) z.1.1 z.1.2
    rw [nI_clamp (by omega)]
    have hG : ∀ i, i ≠ 136 + r → up1 f (136 + r) v i = f i := fun i z => up1_ne z
    show wfS Rs (up1 f (136 + r) v) P n C m
    refine wfS_c h (fun i hi => hG i (by omega)) (by rw [hG 5 (by omega)]; exact h.x) (by rw [hG 6 (by omega)]; exact h.fo) (wfN_c hn.2.2 hn.2.1 (fun i _ z => hG i (by omega))) (wfc_c hC.2 h.c (fun i _ z => hG i (by omega))) (wfL_c h.l (fun i _ z => hG i (by omega)) hm.2) (fun e he => ?_)
    by_cases q : e = r
    · subst q; rw [up1_at]
      by_cases y : v < 0
      · left
        have z1 := z.2.1
        rw [Int32.lt_iff_toInt_lt] at z1 y
        have h0 : (0 : Int32).toInt = 0 := by decide
        have h1 : (-1 : Int32).toInt = -1 := by decide
        exact Int32.toInt_inj.mp (by omega)
      · exact Or.inr y
    · rw [hG _ (by omega)]; exact h.s e he
  · exact h
theorem wfS_pSd {f : Nat → Int32} {P n C m : Nat} {v : Int32} (h : wfS Rs f P n C m) : wfS Rs (pSd f v).2 P n C m := by
  unfold pSd
  split
  · exact h
  · next z =>
    have hn := h.n
    have hC := h.C
    have hm := h.m
    have hG : ∀ i, i ≠ 5 → up1 f 5 v i = f i := fun i z => up1_ne z
    show wfS Rs (up1 f 5 v) P n C m
    exact wfS_c h (fun i hi => hG i (by omega)) (by rw [up1_at]; exact z) (by rw [hG 6 (by omega)]; exact h.fo) (wfN_c hn.2.2 hn.2.1 (fun i _ _ => hG i (by omega))) (wfc_c hC.2 h.c (fun i _ _ => hG i (by omega))) (wfL_c h.l (fun i _ _ => hG i (by omega)) hm.2) (fun e he => by rw [hG _ (by omega)]; exact h.s e he)
theorem wfS_pFc {f : Nat → Int32} {P n C m : Nat} {v : Int32} (hw : wfRs Rs) (h : wfS Rs f P n C m) : wfS Rs (pFc Rs f v).2 P n C m := by
  unfold pFc
  split
  · next z =>
    have hn := h.n
    have hC := h.C
    have hm := h.m
    have hl := hw.1
    have hG : ∀ i, i ≠ 6 → up1 f 6 v i = f i := fun i z => up1_ne z
    show wfS Rs (up1 f 6 v) P n C m
    refine wfS_c h (fun i hi => hG i (by omega)) (by rw [hG 5 (by omega)]; exact h.x) ?_ (wfN_c hn.2.2 hn.2.1 (fun i _ _ => hG i (by omega))) (wfc_c hC.2 h.c (fun i _ _ => hG i (by omega))) (wfL_c h.l (fun i _ _ => hG i (by omega)) hm.2) (fun e he => by rw [hG _ (by omega)]; exact h.s e he)
    rw [up1_at]
    intro y
    rcases z with z | z
    · rw [z] at y; exact absurd (by decide) y
    · obtain ⟨k, hk, rfl⟩ := ix_lt (by omega) z.1 z.2
      exact ⟨k, Rs[k], rfl, by omega, List.getElem?_eq_getElem hk⟩
  · exact h
end WFS
