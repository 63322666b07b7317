/-! ===== best order and dear of the class ===== -/
theorem od_un : ∀ s, s < 7 → ∀ x, x < 64 → pop6 x < s → (List.range s).any (fun i => !x.testBit i) = true := by decide +kernel
section ODO
variable {d Lx : Nat} {ρ : List (Nat × Nat)} {Q : am_Q} {Rs : List (List (Nat × List Nat))}
theorem odF_good {g : Nat → Nat × Nat × List Nat → Nat × Nat × List Nat} {s : Nat} {u : Nat → Bool} (hg : ∀ i b, u i = true → g i b = b) (hg2 : ∀ i b, i < s → u i = false → (b.1 = 0 ∨ b.2.2.length = s) → (g i b).2.2.length = s) : ∀ q i b, i + q = s → (b.1 = 0 ∨ b.2.2.length = s) → (b.2.2.length = s ∨ ∃ j, i ≤ j ∧ j < s ∧ u j = false) → (odF g q i b).2.2.length = s
  | 0, i, b, e, h1, h2 => by
    rcases h2 with h2 | ⟨j, j1, j2, _⟩
    · exact h2
    · omega
  | q + 1, i, b, e, h1, h2 => by
    show (odF g q (i + 1) (g i b)).2.2.length = s
    cases eu : u i with
    | true =>
      rw [hg i b eu]
      refine odF_good hg hg2 q (i + 1) b (by omega) h1 ?_
      rcases h2 with h2 | ⟨j, j1, j2, j3⟩
      · exact Or.inl h2
      · refine Or.inr ⟨j, ?_, j2, j3⟩
        by_cases z : j = i
        · rw [z, eu] at j3; exact absurd j3 (by decide)
        · omega
    | false =>
      have := hg2 i b (by omega) eu h1
      exact odF_good hg hg2 q (i + 1) _ (by omega) (Or.inr this) (Or.inl this)
theorem odD_good {f : Nat → Int32} {n s : Nat} {W : Nat → Nat} (hs : s < 7) : ∀ k ds b, ds.length + k = s → (∀ i ∈ ds, i < s) → pop6 (odT Rs n W f ds).1 + k = s → (b.1 = 0 ∨ b.2.2.length = s) → (odD (odT Rs n W f) s k ds b).2.2.length = s
  | 0, ds, b, e, hd, hp, hb => by
    unfold odD odL
    split
    · exact e
    · next z => exact hb.resolve_left (fun y => z (by omega))
  | k + 1, ds, b, e, hd, hp, hb => by
    have hx := odT_x (Rs := Rs) (n := n) (W := W) (f := f) hs ds hd
    have hp6 := od_pw s hs
    unfold odD
    refine odF_good (u := fun i => (odT Rs n W f ds).1.testBit i) (fun i b z => if_pos z) (fun i b hi z hb => ?_) s 0 b (by omega) hb (Or.inr ?_)
    · have z : (odT Rs n W f ds).1.testBit i = false := z
      rw [if_neg (by rw [z]; decide)]
      refine odD_good hs k (ds ++ [i]) b (by simp; omega) (fun j hj => ?_) ?_ hb
      · rcases List.mem_append.mp hj with y | y
        · exact hd j y
        · rw [List.mem_singleton.mp y]; exact hi
      · rw [odT_sn, odS_1, (od_bits _ (by omega) i (by omega)).2 z]; omega
    · obtain ⟨i, hi, z⟩ := List.any_eq_true.mp (od_un s hs _ (show (odT Rs n W f ds).1 < 64 by omega) (by omega))
      exact ⟨i, Nat.zero_le _, List.mem_range.mp hi, by simpa using z⟩
/-- the best order -/
def pOB (Rs : List (List (Nat × List Nat))) (f : Nat → Int32) (n : Nat) (ws : List Nat) : Nat × Nat × List Nat := odD (odT Rs n (wAt ws) f) ws.length ws.length [] (0, 0, [])
theorem pOB_good {f : Nat → Int32} {n : Nat} {ws : List Nat} (hs : ws.length ≤ 6) : (pOB Rs f n ws).2.2.length = ws.length :=
  odD_good (by omega) ws.length [] (0, 0, []) (by simp) (by simp) (by show pop6 0 + ws.length = ws.length; unfold pop6; omega) (Or.inl rfl)
/-- of a road the last was 0 -/
def zL (f : Nat → Int32) (j : Nat) : Nat → Int32 := up1 f (7 + 5 * j + 3) 0
theorem zL_o {f : Nat → Int32} {j i : Nat} (h : i ≠ 7 + 5 * j + 3) : zL f j i = f i := up1_ne h
theorem wfN_zL {f : Nat → Int32} {n j : Nat} (h : wfN f n) : wfN (zL f j) n := by
  refine ⟨h.1, fun e he => ?_⟩
  have w := h.2 e he
  unfold rA rB rD rL at w ⊢
  rw [zL_o (i := 7 + 5 * e) (by omega), zL_o (i := 7 + 5 * e + 1) (by omega), zL_o (i := 7 + 5 * e + 2) (by omega)]
  obtain ⟨w1, w2, w3, w4, w5, w6, w7, w8, w9, w10⟩ := w
  refine ⟨w1, w2, w3, w4, w5, w6, w7, w8, ?_⟩
  by_cases z : e = j
  · subst z
    rw [show zL f e (7 + 5 * e + 3) = nI 0 from up1_at, nI_clamp (by omega)]
    exact ⟨rfl, by omega⟩
  · rw [zL_o (by omega)]; exact ⟨w9, w10⟩
theorem wtL_cg {f f' : Nat → Int32} {k : Nat} : ∀ m, (∀ i, 92 ≤ i → f' i = f i) → wtL f' k m = wtL f k m
  | 0, _ => rfl
  | m + 1, h => by
    unfold wtL
    rw [wtL_cg m h]
    unfold pWa
    rw [h _ (by omega), h _ (by omega)]
theorem wfL_zL {f : Nat → Int32} {P m j : Nat} (hj : j < 16) (h : wfL f P m) (hm : m ≤ 8) : wfL (zL f j) P m := wfL_c h (fun i h1 h2 => zL_o (by omega)) hm
theorem odB_0 {I : am_I} {ws : List Nat} (h6 : I 46 6 = -1) (h7 : I 46 7 = 0) : odB I ws (0, 0, []) := ⟨h6.trans (by decide), by decide, h7, fun j i z => absurd z (by simp)⟩
theorem sp_findBest {I : am_I} {L : am_L} {f g : Nat → Int32} {P n C m : Nat} {x : Int32} (hS : stS I 94 f n C m) (hwS : wfS Rs f P n C m) (hw : wfRs Rs) (hC : RCc I ρ Rs) (hx : (x = -1 ∧ g = f) ∨ ∃ j, j < n ∧ x = nI j ∧ g = zL f j)
    (h : ∀ I' L', frA I I' → I' 46 2 = nI (wtL f 6 m).length → odB I' (wtL f 6 m) (pOB Rs g n (wtL f 6 m)) → Q none I' L' (gg Lx ρ)) : am_run (d + 14) m_Orders_findBest [.ref 46, .ref 94, .int x] I L (gg Lx ρ) Q := by
  obtain ⟨hn1, hn16, hwf⟩ := hwS.n
  have hm := hwS.m
  have hP := hwS.P
  have hg92 : ∀ i, 92 ≤ i → g i = f i := by
    intro i hi
    rcases hx with ⟨_, e⟩ | ⟨j, hj, _, e⟩
    · rw [e]
    · rw [e]; exact zL_o (by omega)
  have hgwf : wfN g n := by
    rcases hx with ⟨_, e⟩ | ⟨j, hj, _, e⟩
    · rw [e]; exact hwf
    · rw [e]; exact wfN_zL hwf
  have hg0 : g 0 = nI P := by
    rcases hx with ⟨_, e⟩ | ⟨j, hj, _, e⟩
    · rw [e]; exact hP.1
    · rw [e, zL_o (by omega)]; exact hP.1
  have hgL : wfL g P m := wfL_c hwS.l (fun i h1 h2 => hg92 i (by omega)) hm.2
  have hwt := wtL_p (f := f) (k := 6) m
  have hws : ∀ l ∈ wtL f 6 m, l < m ∧ pWa g l := fun l hl => ⟨(hwt.2.2 l hl).1, by
    have := (hwt.2.2 l hl).2
    unfold pWa at this ⊢
    rw [hg92 _ (by omega), hg92 _ (by omega)]; exact this⟩
  refine run_in rfl rfl ⟨rfl, rfl⟩ (sy_Orders_findBest_0 (d := d + 12) 94 _ (by decide) ?_)
  refine sp_Orders_begin (d := d + 10) (k := 6) hS hn16 hm.2 (by decide) (fun I1 f1 i1 r1 => ?_)
  have go : ∀ (J : am_I), (∀ a, a ≠ 46 → a ≠ 56 → J a = I1 a) → J 46 2 = I1 46 2 → J 46 6 = -1 → J 46 7 = 0 → rdR J 52 g n → rdT J 52 g n → am_run (d + 13) m_Orders_tryOrders [.ref 46, .ref 94, .int 0, .int 0, .int 0, .int 0] J L (gg Lx ρ) (fun r I' L' G' => am_W am_all (am_run (d + 13)) e_Orders_findBest Q 51 [.ref 46, .ref 94, .int x] (r.toList ++ ([] : List Value)) I' L' G' 0 0) := by
    intro J FJ j2 j6 j7 RJ TJ
    have hl6 : (wtL f 6 m).length ≤ 6 := hwt.1
    have hT : ∀ j, j ≤ 6 → rdT J (52 + 6 * j) g n := by
      intro j hj
      by_cases z : j = 0
      · subst z; exact TJ
      · refine rdT_fr (fun a h1 h2 => FJ a (by omega) (by omega)) (rdT_cg (f := f) hwf.1 (fun i hi => ?_) (i1.2.2 j hj))
        rcases hx with ⟨_, e⟩ | ⟨q, hq, _, e⟩
        · rw [e]
        · rw [e]; exact zL_o (by omega)
    have := od_try (Lx := Lx) (ρ := ρ) (C := C) (fS := f) hgwf hn16 hg0 hP.2 hgL hm.2 hg92 hw hl6 hws (d + 7 - (wtL f 6 m).length) (wtL f 6 m).length
      (fun r I' L' G' => am_W am_all (am_run (d + 13)) e_Orders_findBest Q 51 [.ref 46, .ref 94, .int x] (r.toList ++ ([] : List Value)) I' L' G' 0 0) J L [] (0, 0, []) (by simp) (by simp)
      (stS_fr (fun a h1 h2 => by rw [FJ a (by omega) (by omega), f1 a (by omega)]) hS)
      (RCc_fr (by rw [FJ 21 (by omega) (by omega), f1 21 (by omega)]) (fun a ha => by rw [FJ a (by omega) (by omega), f1 a (by omega)]) hC)
      ⟨j2.trans i1.1, fun i l z => by rw [FJ 47 (by omega) (by omega)]; exact i1.2.1 i l z, hT⟩ RJ (odB_0 j6 j7) (fun j i z => absurd z (by simp)) (fun I2 L2 r2 i2 b2 => ?_)
    · rw [show d + 7 - (wtL f 6 m).length + (wtL f 6 m).length + 6 = d + 13 by omega] at this
      exact this
    · refine sy_Orders_findBest_51 (d := d + 12) 94 _ (by decide) (h I2 L2 (fun a z => ?_) i2.1 b2)
      rw [r2.1 a (by omega) (by omega) (by omega) (by omega) (by omega) (by omega) (by omega) (by simp; omega), FJ a (by omega) (by omega), f1 a (by omega)]
  have r52 : rdR I1 52 f n := r1 0 (by omega)
  refine sy_Orders_findBest_7 (d := d + 12) 94 _ (by decide) (fun z => ?_) (fun z => vin z.1 z.2.2 rfl (by decide)) (fun z => ?_)
  · have e : g = f := by
      rcases hx with ⟨_, e⟩ | ⟨j, hj, e1, _⟩
      · exact e
      · exact absurd ((hRd_v r52 (by omega)).mpr (by rw [e1]; exact ⟨nI_pos (by omega), nI_lt hj (by omega)⟩)) z
    subst e
    have R : rdR (am_u (am_u I1 46 6 (-1)) 46 7 0) 52 g n := rdR_fr (fun a h1 h2 => by rw [am_u_ne (by omega), am_u_ne (by omega)]) r52
    exact go _ (fun a h1 h2 => by rw [am_u_ne h1, am_u_ne h1]) (by rw [am_u_nk (by decide), am_u_nk (by decide)]) (by rw [am_u_nk (by decide), am_u_at]) am_u_at R (R.T rfl rfl (fun _ _ => ⟨rfl, rfl, rfl⟩))
  · have hv := (hRd_v r52 (by omega)).mp z
    rcases hx with ⟨e, _⟩ | ⟨j, hj, e1, e2⟩
    · rw [e] at hv; exact absurd hv nvN
    · subst e1 e2
      rw [nI_clamp (by omega)]
      have R : rdR (am_u (am_u (am_u I1 56 j 0) 46 6 (-1)) 46 7 0) 52 (zL f j) n := by
        obtain ⟨q1, q2, q3, q4, q5⟩ := r52
        have e52 : ∀ a, a ≠ 46 → a ≠ 56 → am_u (am_u (am_u I1 56 j 0) 46 6 (-1)) 46 7 0 a = I1 a := fun a h1 h2 => by rw [am_u_ne h1, am_u_ne h1, am_u_ne h2]
        refine ⟨?_, ?_, ?_, ?_, fun e he => ?_⟩
        · rw [e52 52 (by decide) (by decide), zL_o (by omega)]; exact q1
        · rw [e52 52 (by decide) (by decide)]; exact q2
        · rw [e52 52 (by decide) (by decide), zL_o (by omega)]; exact q3
        · rw [e52 52 (by decide) (by decide), zL_o (by omega)]; exact q4
        · obtain ⟨a1, a2, a3, a4, a5⟩ := q5 e he
          rw [e52 (52 + 1) (by decide) (by decide), e52 (52 + 2) (by decide) (by decide), e52 (52 + 3) (by decide) (by decide), e52 (52 + 5) (by decide) (by decide), zL_o (i := 7 + 5 * e) (by omega), zL_o (i := 7 + 5 * e + 1) (by omega), zL_o (i := 7 + 5 * e + 2) (by omega), zL_o (i := 7 + 5 * e + 4) (by omega)]
          refine ⟨a1, a2, a3, ?_, a5⟩
          rw [am_u_ne (show 52 + 4 ≠ 46 by decide), am_u_ne (show 52 + 4 ≠ 46 by decide)]
          by_cases y : e = j
          · subst y; rw [show am_u I1 56 e 0 (52 + 4) e = 0 from am_u_at]; exact up1_at.symm
          · rw [show am_u I1 56 j 0 (52 + 4) e = I1 56 e from am_u_nk y, zL_o (by omega)]; exact a4
      exact go _ (fun a h1 h2 => by rw [am_u_ne h1, am_u_ne h1, am_u_ne h2]) (by rw [am_u_nk (by decide), am_u_nk (by decide), am_u_ne (by decide)]) (by rw [am_u_nk (by decide), am_u_at]) am_u_at R (R.T rfl rfl (fun _ _ => ⟨rfl, rfl, rfl⟩))
def pOr (Rs : List (List (Nat × List Nat))) (f : Nat → Int32) (P n : Nat) (ws : List Nat) (w : Int32) : Int32 :=
  if 0 < P ∧ ¬ w < 0 ∧ ¬ 7 < w then (if w = 0 then nI (pOB Rs f n ws).1 - 1 else if w = 1 then nI (pOB Rs f n ws).2.1 else match (pOB Rs f n ws).2.2[w.toNatClampNeg - 2]? with
    | some i => nI (wAt ws i)
    | none => -2) else -1
def pDe (Rs : List (List (Nat × List Nat))) (f : Nat → Int32) (n : Nat) (ws : List Nat) (r : Int32) : Int32 :=
  if vN n r then (nI (pOB Rs (zL f r.toNatClampNeg) n ws).1 - 1) - (nI (pOB Rs f n ws).1 - 1) else -1
theorem sp_LL_order {I : am_I} {L : am_L} {f : Nat → Int32} {P n C m : Nat} {w : Int32} (hS : stS I 94 f n C m) (hwS : wfS Rs f P n C m) (hw : wfRs Rs) (hC : RCc I ρ Rs)
    (h : ∀ I' L', frA I I' → Q (some (.int (pOr Rs f P n (wtL f 6 m) w))) I' L' (gg Lx ρ)) : am_run (d + 15) m_LL_order [.ref 12, .int w] I L (gg Lx ρ) Q := by
  have hN := hNet_n hS hwS
  have hwt := wtL_p (f := f) (k := 6) m
  unfold pOr at h
  refine run_in rfl rfl ⟨rfl, rfl⟩ (sy_LL_order_0 (d := d + 13) _ (fun z => ?_) (fun _ z => ?_) (fun z z2 z3 => ?_) (fun _ _ z => ?_))
  · rw [if_neg (fun q => z (hN.mpr q.1))] at h; exact h I L frA.rf
  · rw [if_neg (fun q => q.2.1 z)] at h; exact h I L frA.rf
  · rw [if_pos ⟨hN.mp z, z2, z3⟩] at h
    refine sp_findBest (d := d) hS hwS hw hC (Or.inl ⟨rfl, rfl⟩) (fun I1 L1 f1 l1 b1 => ?_)
    refine sy_LL_order_34 (d := d + 13) _ (fun e => ?_) (fun e => ?_) (fun e => ?_)
    · have e : w = 0 := sw_i (by decide) e
      rw [if_pos e] at h; rw [b1.1]; exact h I1 L1 f1
    · have e : w = 1 := sw_i (by decide) e
      rw [if_neg (by rw [e]; decide), if_pos e] at h; rw [b1.2.2.1]; exact h I1 L1 f1
    · obtain ⟨k, k0, k7, rfl⟩ := nI_btw (a := 0) (b := 7) rfl rfl (by decide) (by decide) z2 z3
      have e0 : ¬ nI k = 0 := fun q => e _ (List.mem_cons_self) (by rw [q]; decide)
      have e1 : ¬ nI k = 1 := fun q => e _ (List.mem_cons_of_mem _ List.mem_cons_self) (by rw [q]; decide)
      have hk2 : 2 ≤ k := by
        rcases (by omega : k = 0 ∨ k = 1 ∨ 2 ≤ k) with y | y | y
        · subst y; exact absurd rfl e0
        · subst y; exact absurd rfl e1
        · exact y
      rw [if_neg e0, if_neg e1, nI_clamp (by omega)] at h
      have es : nI k - 2 = nI (k - 2) := by rw [show (2 : Int32) = nI 2 from rfl, pk_sub hk2]
      have hg := pOB_good (Rs := Rs) (f := f) (n := n) hwt.1
      rw [es]
      unfold cBest
      rw [l1]
      by_cases y : k - 2 < (wtL f 6 m).length
      · rw [if_pos ⟨nI_pos (by omega), nI_lt y (by omega), nI_lt (b := 6) (by omega) (by decide)⟩, nI_clamp (by omega)]
        have hz : (pOB Rs f n (wtL f 6 m)).2.2[k - 2]? = some (pOB Rs f n (wtL f 6 m)).2.2[k - 2] := List.getElem?_eq_getElem (by rw [hg]; exact y)
        rw [hz] at h
        rw [b1.2.2.2 _ _ hz]
        exact h I1 L1 f1
      · rw [if_neg (fun q => absurd q.2.1 (nI_nlt (by omega) (by omega)))]
        rw [List.getElem?_eq_none (by omega)] at h
        exact h I1 L1 f1
  · rw [if_neg (fun q => q.2.2 z)] at h; exact h I L frA.rf
theorem sp_LL_dear {I : am_I} {L : am_L} {f : Nat → Int32} {P n C m : Nat} {r : Int32} (hS : stS I 94 f n C m) (hwS : wfS Rs f P n C m) (hw : wfRs Rs) (hC : RCc I ρ Rs)
    (h : ∀ I' L', frA I I' → Q (some (.int (pDe Rs f n (wtL f 6 m) r))) I' L' (gg Lx ρ)) : am_run (d + 15) m_LL_dear [.ref 12, .int r] I L (gg Lx ρ) Q := by
  have hn := hwS.n
  have hv := hRd_v (x := r) hS.1 (by omega)
  unfold pDe at h
  refine run_in rfl rfl ⟨rfl, rfl⟩ (sy_LL_dear_0 (d := d + 13) _ (fun z => ?_) (fun z => ?_))
  · rw [if_pos (hv.mp z)] at h
    obtain ⟨j, hj, rfl⟩ := ix_lt (by omega) (hv.mp z).1 (hv.mp z).2
    rw [nI_clamp (by omega)] at h
    refine sp_findBest (d := d) hS hwS hw hC (Or.inl ⟨rfl, rfl⟩) (fun I1 L1 f1 l1 b1 => sy_LL_dear_28 (d := d + 13) _ _ ?_)
    rw [b1.1]
    refine sp_findBest (d := d) (stS_fr (fun a h1 h2 => f1 a (by omega)) hS) hwS hw (RCc_fr (f1 21 (by omega)) (fun a ha => f1 a (by omega)) hC) (Or.inr ⟨j, hj, rfl, rfl⟩) (fun I2 L2 f2 l2 b2 => sy_LL_dear_48 (d := d + 13) _ _ ?_)
    rw [b2.1]
    exact h I2 L2 (f1.tr f2)
  · rw [if_neg (fun q => z (hv.mpr q))] at h; exact h I L frA.rf
end ODO
