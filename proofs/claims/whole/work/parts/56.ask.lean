/-! ===== soonest, way, reached, wiped ===== -/
section ASK
variable {d Lx : Nat} {ρ : List (Nat × Nat)} {Q : am_Q} {Rs : List (List (Nat × List Nat))}
/-- may one ask -/
abbrev asks (P : Nat) (k fr to : Int32) : Prop := (¬ k < 1 ∧ ¬ 7 < k) ∧ (¬ fr < 0 ∧ fr < nI P) ∧ (¬ to < 0 ∧ to < nI P)
theorem asks_n {P : Nat} {k fr to : Int32} (hP : P ≤ 10) (h : asks P k fr to) : ∃ kk p t, 1 ≤ kk ∧ kk ≤ 7 ∧ k = nI kk ∧ p < P ∧ fr = nI p ∧ t < P ∧ to = nI t := by
  obtain ⟨kk, k1, k7, ek⟩ := nI_btw (a := 1) (b := 7) rfl rfl (by decide) (by decide) h.1.1 h.1.2
  obtain ⟨p, hp, ep⟩ := ix_lt (by omega) h.2.1.1 h.2.1.2
  obtain ⟨t, ht, et⟩ := ix_lt (by omega) h.2.2.1 h.2.2.2
  exact ⟨kk, p, t, k1, k7, ek, hp, ep, ht, et⟩
theorem hAsk_n {I : am_I} {f : Nat → Int32} {P n C m : Nat} {k fr to : Int32} (hS : stS I 94 f n C m) (hwS : wfS Rs f P n C m) : hAsk I k fr to ↔ asks P k fr to := by
  have hP := hwS.P
  have e5 : I 95 5 = nI P := hS.1.1.trans hP.1
  have h10 : ∀ x : Int32, ¬ x < 0 → x < nI P → x < 10 := fun x h0 h1 => by
    obtain ⟨p, hp, rfl⟩ := ix_lt (by omega) h0 h1
    exact nI_lt (b := 10) (by omega) (by decide)
  unfold hAsk hPl asks
  rw [e5]
  exact ⟨fun z => ⟨⟨z.1, z.2.1⟩, ⟨z.2.2.1.1, z.2.2.1.2.1⟩, ⟨z.2.2.2.1, z.2.2.2.2.1⟩⟩, fun z => ⟨z.1.1, z.1.2, ⟨z.2.1.1, z.2.1.2, h10 _ z.2.1.1 z.2.1.2⟩, z.2.2.1, z.2.2.2, h10 _ z.2.2.1 z.2.2.2⟩⟩
theorem mAsk_n {I : am_I} {P n C m : Nat} {k fr to : Int32} (hwS : wfS Rs (I 198) P n C m) : mAsk I k fr to ↔ asks P k fr to := by
  unfold mAsk mKi mPl asks
  rw [hwS.P.1]
def pSn (Rs : List (List (Nat × List Nat))) (f : Nat → Int32) (P n : Nat) (k fr to : Int32) : Int32 :=
  if asks P k fr to then (if pD Rs f n k to.toNatClampNeg fr.toNatClampNeg < 1000000 then nI (pD Rs f n k to.toNatClampNeg fr.toNatClampNeg) else -2) else -1
def pWy (Rs : List (List (Nat × List Nat))) (f : Nat → Int32) (P n : Nat) (k fr to i : Int32) : Int32 :=
  if asks P k fr to ∧ ¬ i < 0 then (if pD Rs f n k to.toNatClampNeg fr.toNatClampNeg < 1000000 then wI ((pW Rs f n k to.toNatClampNeg fr.toNatClampNeg)[i.toNatClampNeg]?) else -2) else -1
theorem sp_LL_soonest {I : am_I} {L : am_L} {f : Nat → Int32} {P n C m : Nat} {k fr to : Int32} (hS : stS I 94 f n C m) (hwS : wfS Rs f P n C m) (hw : wfRs Rs) (hC : RCc I ρ Rs)
    (h : ∀ I' L', frA I I' → Q (some (.int (pSn Rs f P n k fr to))) I' L' (gg Lx ρ)) : am_run (d + 5) m_LL_soonest [.ref 12, .int k, .int fr, .int to] I L (gg Lx ρ) Q := by
  have hP := hwS.P
  obtain ⟨hn1, hn16, hwf⟩ := hwS.n
  unfold pSn at h
  refine run_in rfl rfl ⟨rfl, rfl⟩ (sy_LL_soonest_0 (d := d + 2) _ _ _ (fun z => ?_) (fun z => ?_))
  · have z := (hAsk_n hS hwS).mp z
    rw [if_pos z] at h
    obtain ⟨kk, p, t, k1, k7, rfl, hp, rfl, ht, rfl⟩ := asks_n hP.2 z
    rw [nI_clamp (n := p) (by omega), nI_clamp (n := t) (by omega)] at h
    refine sp_Finder_look (d := d) (r := 95) (by decide) hS.1 hwf hw hC (fun I1 L1 f1 l1 v1 => sy_LL_soonest_27 (d := d + 2) _ _ _ ?_)
    have hlk1 := lkd_look hwf v1
    refine sp_Finder_measure (d := d + 2) (r := 95) (by decide) (rdR_fr (fun a g1 g2 => f1 a (by simp; omega)) hS.1) hwf hlk1 hP.1 hP.2 ht (fun I2 f2 v2 => sy_LL_soonest_42 (d := d + 2) _ _ _ ?_)
    have v2' : ∀ q, q < 10 → I2 29 q = nI (pD Rs f n (nI kk) t q) := v2
    rw [cCost_n v2' (by omega) (dst_B p)]
    exact h I2 L1 ((f1.A (by simp)).tr (f2.A (by simp)))
  · rw [if_neg (fun y => z ((hAsk_n hS hwS).mpr y))] at h; exact h I L frA.rf
theorem sp_LL_way {I : am_I} {L : am_L} {f : Nat → Int32} {P n C m : Nat} {k fr to i : Int32} (hS : stS I 94 f n C m) (hwS : wfS Rs f P n C m) (hw : wfRs Rs) (hC : RCc I ρ Rs)
    (h : ∀ I' L', frA I I' → Q (some (.int (pWy Rs f P n k fr to i))) I' L' (gg Lx ρ)) : am_run (d + 5) m_LL_way [.ref 12, .int k, .int fr, .int to, .int i] I L (gg Lx ρ) Q := by
  have hP := hwS.P
  obtain ⟨hn1, hn16, hwf⟩ := hwS.n
  unfold pWy at h
  refine run_in rfl rfl ⟨rfl, rfl⟩ (sy_LL_way_0 (d := d + 2) _ _ _ _ (fun z => ?_) (fun z z2 => ?_) (fun z z2 => ?_))
  · rw [if_neg (fun y => z ((hAsk_n hS hwS).mpr y.1))] at h; exact h I L frA.rf
  · have z := (hAsk_n hS hwS).mp z
    rw [if_pos ⟨z, z2⟩] at h
    obtain ⟨kk, p, t, k1, k7, rfl, hp, rfl, ht, rfl⟩ := asks_n hP.2 z
    obtain ⟨ii, hi, rfl⟩ := nI_of z2
    rw [nI_clamp (n := p) (by omega), nI_clamp (n := t) (by omega), nI_clamp hi] at h
    refine sp_Finder_look (d := d) (r := 95) (by decide) hS.1 hwf hw hC (fun I1 L1 f1 l1 v1 => sy_LL_way_32 (d := d + 2) _ _ _ _ ?_)
    have hlk1 := lkd_look hwf v1
    have hR1 := rdR_fr (fun a g1 g2 => f1 a (by simp; omega)) hS.1
    refine sp_Finder_measure (d := d + 2) (r := 95) (by decide) hR1 hwf hlk1 hP.1 hP.2 ht (fun I2 f2 v2 => sy_LL_way_47 (d := d + 2) _ _ _ _ ?_)
    refine sp_Finder_roadOfWay (d := d) (r := 95) (by decide) (rdR_fr (fun a g1 g2 => f2 a (by simp; omega)) hR1) hwf (lkd_fr (f2 26 (by simp)) (f2 27 (by simp)) (f2 28 (by simp)) hlk1) v2 (fun q => dst_B q) (by omega) hi (by omega) (sy_LL_way_65 (d := d + 2) _ _ _ _ _ ?_)
    exact h I2 L1 ((f1.A (by simp)).tr (f2.A (by simp)))
  · rw [if_neg (fun y => y.2 z2)] at h; exact h I L frA.rf
theorem sp_Model_soonest {I : am_I} {L : am_L} {P n C m : Nat} {k fr to : Int32} (hwS : wfS Rs (I 198) P n C m) (hw : wfRs Rs) (hM : RCm I Rs)
    (h : ∀ I' L', frB n I I' → Q (some (.int (pSn Rs (I 198) P n k fr to))) I' L' (gg Lx ρ)) : am_run (d + 8) m_Model_soonest [.ref 186, .int k, .int fr, .int to] I L (gg Lx ρ) Q := by
  have hP := hwS.P
  obtain ⟨hn1, hn16, hwf⟩ := hwS.n
  unfold pSn at h
  refine run_in rfl rfl ⟨rfl, rfl⟩ (sy_Model_soonest_0 (d := d + 5) _ _ _ (fun z => ?_) (fun z => ?_))
  · have z := (mAsk_n hwS).mp z
    rw [if_pos z] at h
    obtain ⟨kk, p, t, k1, k7, rfl, hp, rfl, ht, rfl⟩ := asks_n hP.2 z
    rw [nI_clamp (n := p) (by omega), nI_clamp (n := t) (by omega)] at h
    refine sp_Model_looks (d := d) hn1 hwf rfl k7 hwS.fo hw hM (by omega) (fun I1 L1 f1 l1 n1 m1 v1 => ?_)
    have hb : pD Rs (I 198) n (nI kk) t p ≤ 1000000 := dst_B p
    have ev : I1 200 (nI p).toNatClampNeg = nI (pD Rs (I 198) n (nI kk) t p) := by rw [nI_clamp (by omega)]; exact v1 p (by omega)
    have hB : frB n I I1 := f1.B (by simp) (by simp)
    refine sy_Model_soonest_18 (d := d + 5) _ _ _ (vp_in_nI (by omega) (by decide)) (fun y => ?_) (fun y => ?_)
    · rw [ev] at y ⊢
      rw [if_pos (Classical.byContradiction fun q => y ((nI_B hb).mpr q))] at h; exact h I1 L1 hB
    · rw [ev] at y
      rw [if_neg ((nI_B hb).mp y)] at h; exact h I1 L1 hB
  · rw [if_neg (fun y => z ((mAsk_n hwS).mpr y))] at h; exact h I L frB.rf
theorem sp_Model_way {I : am_I} {L : am_L} {P n C m : Nat} {k fr to i : Int32} (hwS : wfS Rs (I 198) P n C m) (hw : wfRs Rs) (hM : RCm I Rs)
    (h : ∀ I' L', frB n I I' → Q (some (.int (pWy Rs (I 198) P n k fr to i))) I' L' (gg Lx ρ)) : am_run (d + 8) m_Model_way [.ref 186, .int k, .int fr, .int to, .int i] I L (gg Lx ρ) Q := by
  have hP := hwS.P
  obtain ⟨hn1, hn16, hwf⟩ := hwS.n
  unfold pWy at h
  refine run_in rfl rfl ⟨rfl, rfl⟩ (sy_Model_way_0 (d := d + 5) _ _ _ _ (fun z => ?_) (fun z z2 => ?_) (fun z z2 => ?_))
  · rw [if_neg (fun y => z ((mAsk_n hwS).mpr y.1))] at h; exact h I L frB.rf
  · have z := (mAsk_n hwS).mp z
    rw [if_pos ⟨z, z2⟩] at h
    obtain ⟨kk, p, t, k1, k7, rfl, hp, rfl, ht, rfl⟩ := asks_n hP.2 z
    obtain ⟨ii, hi, rfl⟩ := nI_of z2
    rw [nI_clamp (n := p) (by omega), nI_clamp (n := t) (by omega), nI_clamp hi] at h
    refine sp_Model_looks (d := d) hn1 hwf rfl k7 hwS.fo hw hM (by omega) (fun I1 L1 f1 l1 n1 m1 v1 => ?_)
    have hb : pD Rs (I 198) n (nI kk) t p ≤ 1000000 := dst_B p
    have ev : I1 200 (nI p).toNatClampNeg = nI (pD Rs (I 198) n (nI kk) t p) := by rw [nI_clamp (by omega)]; exact v1 p (by omega)
    have hB : frB n I I1 := f1.B (by simp) (by simp)
    have e198 : I1 198 = I 198 := f1.1 198 (by decide) (by simp)
    refine sy_Model_way_23 (d := d + 5) _ _ _ _ _ _ _ (vp_in_nI (by omega) (by decide)) (fun y => ?_) (fun y => ?_)
    · rw [ev] at y
      have hlt : pD Rs (I 198) n (nI kk) t p < 1000000 := Classical.byContradiction fun q => y ((nI_B hb).mpr q)
      rw [if_pos hlt] at h
      exact lp_mway (d := d + 4) n1 e198 hwf m1 v1 (by omega) hi 10 0 p _ (by omega) (by omega) (by omega) hlt (by have := gNear_9 (D := dst (rA (I 198)) (rB (I 198)) (rD (I 198)) (uO Rs (I 198) (nI kk)) (vO Rs (I 198) (nI kk)) n t) (p := p) 10 (by omega); omega) (h I1 L1 hB)
    · rw [ev] at y
      rw [if_neg ((nI_B hb).mp y)] at h; exact h I1 L1 hB
  · rw [if_neg (fun y => y.2 z2)] at h; exact h I L frB.rf
def pSk (Rs : List (List (Nat × List Nat))) (f : Nat → Int32) (P n m : Nat) : Int32 := if 0 < P then pStB Rs f n m else -1
theorem sp_LL_stuck {I : am_I} {L : am_L} {f : Nat → Int32} {P n C m : Nat} (hS : stS I 94 f n C m) (hwS : wfS Rs f P n C m) (hw : wfRs Rs) (hC : RCc I ρ Rs)
    (h : ∀ I' L', frA I I' → Q (some (.int (pSk Rs f P n m))) I' L' (gg Lx ρ)) : am_run (d + 6) m_LL_stuck [.ref 12] I L (gg Lx ρ) Q := by
  have hP := hwS.P
  obtain ⟨hn1, hn16, hwf⟩ := hwS.n
  unfold pSk at h
  refine run_in rfl rfl ⟨rfl, rfl⟩ (sy_LL_stuck_0 (d := d + 4) (fun z => ?_) (fun z => ?_))
  · rw [if_pos ((hNet_n hS hwS).mp z)] at h
    exact sp_Finder_stuckIn (d := d) (s := 94) (r := 95) (by decide) (by decide) hS hwS.m.2 hwS.l hS.1 hwf hP.1 hP.2 (fun _ _ => rfl) hw hC (fun I' L' f1 l1 => sy_LL_stuck_30 (d := d + 4) _ (h I' L' (f1.A (by simp))))
  · rw [if_neg (fun y => z ((hNet_n hS hwS).mpr y))] at h; exact h I L frA.rf
theorem sp_Model_stuck {I : am_I} {L : am_L} {P n C m : Nat} (hwS : wfS Rs (I 198) P n C m) (hw : wfRs Rs) (hM : RCm I Rs)
    (h : ∀ I' L', frB n I I' → Q (some (.int (pSk Rs (I 198) P n m))) I' L' (gg Lx ρ)) : am_run (d + 8) m_Model_stuck [.ref 186] I L (gg Lx ρ) Q := by
  have hP := hwS.P
  obtain ⟨hn1, hn16, hwf⟩ := hwS.n
  unfold pSk at h
  refine run_in rfl rfl ⟨rfl, rfl⟩ (sz_Model_stuck_0 (fun z => ?_) (fun z => ?_))
  · rw [hP.1] at z
    rw [if_pos (Nat.pos_of_ne_zero fun y => z (by rw [y]; rfl))] at h
    have f0 : frm [199, 200] [24, 29] I (am_u I 186 29 (I 198 1)) := frm.rf.uf (by simp)
    have e198 : am_u I 186 29 (I 198 1) 198 = I 198 := am_u_ne (by decide)
    refine sp_Model_stuckOnes (d := d) (Rs := Rs) (P := P) (n := n) (m := m) (by rw [am_u_at]; exact hn1) (by rw [e198]; exact hwS.m.1) hwS.m.2 (by rw [e198]; exact hwS.l) (by rw [e198]; exact hwf) hP.2 (by rw [e198]; exact hwS.fo) hw (f0.M (by simp) (by simp) hM) (fun I' L' f1 l1 => sz_Model_stuck_25 _ ?_)
    rw [e198]
    exact h I' L' ((f0.tr (f1.w (by simp) (by simp))).B (by simp) (by simp))
  · rw [hP.1] at z
    rw [if_neg (fun y => nI_ne0 y (by omega) z)] at h; exact h I L frB.rf
theorem rb_and : ∀ x, x < 1024 → ∀ p, p < 10 → ((nI x &&& (1 <<< (nI p &&& 31))) = 0 ↔ x.testBit p = false) := by decide +kernel
theorem rb_or : ∀ x, x < 1024 → ∀ p, p < 10 → (nI x ||| (1 <<< (nI p &&& 31))) = nI (x ||| 2 ^ p) ∧ x ||| 2 ^ p < 1024 := by decide +kernel
theorem rb_of : ∀ x, x < 1024 → ∀ p, p < 10 → (((nI x >>> (nI p &&& 31)) &&& 1) = 1 ↔ x.testBit p = true) := by decide +kernel
theorem rb_1 : ∀ p, p < 10 → (1 : Int32) <<< (nI p &&& 31) = nI (2 ^ p) ∧ 2 ^ p < 1024 := by decide +kernel
def pop10 (x : Nat) : Nat := x % 2 + x / 2 % 2 + x / 4 % 2 + x / 8 % 2 + x / 16 % 2 + x / 32 % 2 + x / 64 % 2 + x / 128 % 2 + x / 256 % 2 + x / 512 % 2
theorem rb_pop : ∀ x, x < 1024 → ∀ p, p < 10 → (x ||| 2 ^ p = x ∨ pop10 (x ||| 2 ^ p) = pop10 x + 1) := by decide +kernel
theorem pop10_le (x : Nat) : pop10 x ≤ 10 := by unfold pop10; omega
def rcH (a b : Nat) (o : Bool) (x : Nat) : Nat := if o = true ∧ x.testBit a = true then x ||| 2 ^ b else x
def rcP (a b : Nat → Nat) (u v : Nat → Bool) : Nat → Nat → Nat
  | 0, x => x
  | n + 1, x => rcH (b n) (a n) (v n) (rcH (a n) (b n) (u n) (rcP a b u v n x))
def rcI (a b : Nat → Nat) (u v : Nat → Bool) (n : Nat) : Nat → Nat → Nat
  | 0, x => x
  | k + 1, x => rcP a b u v n (rcI a b u v n k x)
theorem rcH_p {a b x : Nat} {o : Bool} (hx : x < 1024) (hb : b < 10) : rcH a b o x < 1024 ∧ (rcH a b o x = x ∨ pop10 x < pop10 (rcH a b o x)) := by
  unfold rcH
  split
  · refine ⟨(rb_or x hx b hb).2, ?_⟩
    rcases rb_pop x hx b hb with h | h
    · exact Or.inl h
    · exact Or.inr (by omega)
  · exact ⟨hx, Or.inl rfl⟩
theorem rcP_p {a b : Nat → Nat} {u v : Nat → Bool} {x : Nat} (hx : x < 1024) : ∀ n, (∀ j, j < n → a j < 10 ∧ b j < 10) → rcP a b u v n x < 1024 ∧ (rcP a b u v n x = x ∨ pop10 x < pop10 (rcP a b u v n x))
  | 0, _ => ⟨hx, Or.inl rfl⟩
  | n + 1, h => by
    obtain ⟨h1, h2⟩ := rcP_p (u := u) (v := v) hx n (fun j hj => h j (by omega))
    obtain ⟨g1, g2⟩ := rcH_p (a := a n) (b := b n) (o := u n) h1 (h n (by omega)).2
    obtain ⟨k1, k2⟩ := rcH_p (a := b n) (b := a n) (o := v n) g1 (h n (by omega)).1
    refine ⟨k1, ?_⟩
    show rcH (b n) (a n) (v n) (rcH (a n) (b n) (u n) (rcP a b u v n x)) = x ∨ pop10 x < pop10 (rcH (b n) (a n) (v n) (rcH (a n) (b n) (u n) (rcP a b u v n x)))
    rcases k2 with k2 | k2 <;> rcases g2 with g2 | g2 <;> rcases h2 with h2 | h2
    · exact Or.inl (k2.trans (g2.trans h2))
    · exact Or.inr (by rw [k2, g2]; exact h2)
    · exact Or.inr (by rw [k2]; rw [h2] at g2 ⊢; exact g2)
    · exact Or.inr (by rw [k2]; omega)
    · exact Or.inr (by rw [g2, h2] at k2 ⊢; exact k2)
    · exact Or.inr (by rw [g2] at k2 ⊢; omega)
    · exact Or.inr (by rw [h2] at g2 k2 ⊢; omega)
    · exact Or.inr (by omega)
theorem rcI_p {a b : Nat → Nat} {u v : Nat → Bool} {x n : Nat} (hx : x < 1024) (hx1 : 1 ≤ pop10 x) (h : ∀ j, j < n → a j < 10 ∧ b j < 10) : ∀ k, rcI a b u v n k x < 1024 ∧ (rcI a b u v n (k + 1) x = rcI a b u v n k x ∨ k + 2 ≤ pop10 (rcI a b u v n (k + 1) x))
  | 0 => by
    obtain ⟨h1, h2⟩ := rcP_p (u := u) (v := v) hx n h
    refine ⟨hx, ?_⟩
    rcases h2 with h2 | h2
    · exact Or.inl h2
    · exact Or.inr (by show 2 ≤ pop10 (rcP a b u v n x); omega)
  | k + 1 => by
    obtain ⟨h1, h2⟩ := rcI_p (u := u) (v := v) hx hx1 h k
    obtain ⟨g1, g2⟩ := rcP_p (u := u) (v := v) h1 n h
    refine ⟨g1, ?_⟩
    rcases h2 with h2 | h2
    · refine Or.inl ?_
      show rcP a b u v n (rcI a b u v n (k + 1) x) = rcI a b u v n (k + 1) x
      rw [h2]; exact h2
    · obtain ⟨f1, f2⟩ := rcP_p (u := u) (v := v) g1 n h
      rcases f2 with f2 | f2
      · exact Or.inl f2
      · exact Or.inr (by
          show k + 1 + 2 ≤ pop10 (rcP a b u v n (rcI a b u v n (k + 1) x))
          have this : rcI a b u v n (k + 1) x = rcP a b u v n (rcI a b u v n k x) := rfl
          rw [this] at h2 ⊢
          omega)
/-- ten passes are enough -/
theorem rcI_fix {a b : Nat → Nat} {u v : Nat → Bool} {x n : Nat} (hx : x < 1024) (hx1 : 1 ≤ pop10 x) (h : ∀ j, j < n → a j < 10 ∧ b j < 10) : rcI a b u v n 10 x = rcI a b u v n 9 x := by
  rcases (rcI_p (u := u) (v := v) hx hx1 h 9).2 with h2 | h2
  · exact h2
  · have := pop10_le (rcI a b u v n (9 + 1) x); omega
theorem rcI_st {a b : Nat → Nat} {u v : Nat → Bool} {x n k : Nat} (h : rcI a b u v n (k + 1) x = rcI a b u v n k x) : ∀ m, rcI a b u v n (k + m) x = rcI a b u v n k x
  | 0 => rfl
  | m + 1 => by
    show rcP a b u v n (rcI a b u v n (k + m) x) = _
    rw [rcI_st h m]; exact h
end ASK
