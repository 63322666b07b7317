/-! ===== plan of the reference: coming, standing ===== -/
def hR (e : Nat) : Nat := ((lN e ^^^ (lN e >>> (Int32.toInt64 17 &&& 63))) ^^^ (lN e >>> (Int32.toInt64 31 &&& 63))).toBitVec.toNat % 2 ^ 12
theorem and4095 (x : Int64) : Int64.toInt32 (x &&& 4095) = nI (x.toBitVec.toNat % 2 ^ 12) := by
  obtain ⟨m, hm, rfl⟩ := wb_of x
  rw [wb_tn hm, show (4095 : Int64) = lN (2 ^ 12 - 1) from rfl, wb_mask hm (by decide), lN_i]
def reP (I : am_I) (L : am_L) (st : PSt) (G : Nat → Bool) : Prop := I 186 35 = nI st.1 ∧ (∀ k, k < st.1 → L 202 k = lN (eR (st.2.1 k)) ∧ I 203 k = nI (st.2.2.1 k) ∧ I 204 k = bI (G k = true)) ∧ tbl (I 205) 4096 st.1 (fun k => hR (eR (st.2.1 k))) ∧ I 186 36 = bI (st.2.2.2 = true)
theorem reP_fr {I I' : am_I} {L L' : am_L} {st : PSt} {G : Nat → Bool} (h6 : ∀ k, k = 35 ∨ k = 36 → I' 186 k = I 186 k) (h3 : I' 203 = I 203) (h4 : I' 204 = I 204) (h5 : I' 205 = I 205) (h2 : L' 202 = L 202) (h : reP I L st G) : reP I' L' st G := by
  obtain ⟨p1, p2, p3, p4⟩ := h
  exact ⟨(h6 35 (by omega)).trans p1, by rw [h2, h3, h4]; exact p2, by rw [h5]; exact p3, (h6 36 (by omega)).trans p4⟩
section PLM
variable {d Lx : Nat} {ρ : List (Nat × Nat)} {Q : am_Q} {Rs : List (List (Nat × List Nat))}
theorem lp_mSl {I : am_I} {L : am_L} {K : am_C} {n t h0 : Nat} {st : PSt} {s : Sit} (hn : n ≤ 16) (hW : plW n st) (hs : okS n s) (hk1 : ∀ k, k < st.1 → L 202 k = lN (eR (st.2.1 k))) (ht : t < 4096) (hpre : ∀ u, u < t → ∃ k, k < st.1 ∧ I 205 ((h0 + u) % 4096) = nI (k + 1) ∧ ¬ st.2.1 k = s) (hend : I 205 ((h0 + t) % 4096) = 0 ∨ ∃ k, k < st.1 ∧ I 205 ((h0 + t) % 4096) = nI (k + 1) ∧ st.2.1 k = s) (h : Q (some (.int (nI ((h0 + t) % 4096)))) I L (gg Lx ρ)) : ∀ q u, u + q = t → am_W am_all K e_Model_slotOf Q 17 [.ref 186, .long (lN (eR s)), .null, .int (nI ((h0 + u) % 4096))] [] I L (gg Lx ρ) 0 0
  | 0, u, e => by
    have e : u = t := e
    subst e
    have hm := Nat.mod_lt (h0 + u) (show 0 < 4096 by decide)
    have ec : (nI ((h0 + u) % 4096)).toNatClampNeg = (h0 + u) % 4096 := nI_clamp (by omega)
    have hN := hW.1
    refine sz_Model_slotOf_17 _ _ (vp_in_nI hm (by decide)) (fun _ => h) (fun z => ?_) (fun _ _ => h) (fun z z2 => ?_)
    · rw [ec] at z ⊢
      rcases hend with q | ⟨k, k1, k2, k3⟩
      · rw [q] at z; exact absurd z (by decide)
      · rw [k2, nI_pred]; exact vp_in_nI (by omega) (by decide)
    · rw [ec] at z z2
      rcases hend with q | ⟨k, k1, k2, k3⟩
      · rw [q] at z; exact absurd z (by decide)
      · rw [k2, nI_pred, nI_clamp (by omega), hk1 k k1, k3] at z2
        exact absurd (lg0.mpr rfl) z2
  | q + 1, u, e => by
    have hm := Nat.mod_lt (h0 + u) (show 0 < 4096 by decide)
    have ec : (nI ((h0 + u) % 4096)).toNatClampNeg = (h0 + u) % 4096 := nI_clamp (by omega)
    obtain ⟨k, k1, k2, k3⟩ := hpre u (by omega)
    have hN := hW.1
    have hpos : 0 < I 205 (nI ((h0 + u) % 4096)).toNatClampNeg := by rw [ec, k2]; exact nI_lt (a := 0) (by omega) (by omega)
    have e1 : I 205 (nI ((h0 + u) % 4096)).toNatClampNeg - 1 = nI k := by rw [ec, k2, nI_pred]
    have hne : ¬ lg_cmp (L 202 (I 205 (nI ((h0 + u) % 4096)).toNatClampNeg - 1).toNatClampNeg) (lN (eR s)) = 0 := by
      rw [e1, nI_clamp (by omega), hk1 k k1, lg0]
      have b1 := eR_lt hn (hW.2.1 k k1).1
      have b2 := eR_lt hn hs
      intro z
      exact k3 (eR_inj (hW.2.1 k k1).1 hs ((pk_lEQ (by omega) (by omega)).mp z))
    refine sz_Model_slotOf_17 _ _ (vp_in_nI hm (by decide)) (fun z => absurd hpos z) (fun _ => by rw [e1]; exact vp_in_nI (by omega) (by decide)) (fun _ z => absurd z hne) (fun _ _ => ?_)
    have e2 : (nI ((h0 + u) % 4096) + 1) - (nI ((h0 + u) % 4096) + 1) / 4096 * 4096 = nI ((h0 + (u + 1)) % 4096) := by
      rw [nI_1, show (4096 : Int32) = nI 4096 from rfl, pk_rem (by omega) (by decide) (by decide)]
      congr 1
      omega
    rw [e2]
    exact lp_mSl hn hW hs hk1 ht hpre hend h q (u + 1) (by omega)
theorem sp_mSl {I : am_I} {L : am_L} {n : Nat} {st : PSt} {s : Sit} {G : Nat → Bool} (hn : n ≤ 16) (hW : plW n st) (hs : okS n s) (hP : reP I L st G)
    (h1 : ∀ k a, k < st.1 → st.2.1 k = s → a < 4096 → I 205 a = nI (k + 1) → Q (some (.int (nI a))) I L (gg Lx ρ))
    (h0 : ∀ t, t < 4096 → (∀ k, k < st.1 → ¬ st.2.1 k = s) → (∀ u, u < t → ¬ I 205 ((hR (eR s) + u) % 4096) = 0) → I 205 ((hR (eR s) + t) % 4096) = 0 → Q (some (.int (nI ((hR (eR s) + t) % 4096)))) I L (gg Lx ρ)) : am_run (d + 1) m_Model_slotOf [.ref 186, .long (lN (eR s))] I L (gg Lx ρ) Q := by
  have hN := hW.1
  obtain ⟨t, t1, t2, t3⟩ := tb_look (key := fun k => st.2.1 k = s) (h0 := hR (eR s)) hP.2.2.1 (by omega) (by decide) (fun k hk e => by show hR (eR (st.2.1 k)) = _; rw [e])
  have hh : hR (eR s) < 4096 := Nat.mod_lt _ (by decide)
  refine run_in rfl rfl ⟨rfl, rfl⟩ (sz_Model_slotOf_0 _ ?_)
  rw [and4095, show ((lN (eR s) ^^^ (lN (eR s) >>> (Int32.toInt64 17 &&& 63))) ^^^ (lN (eR s) >>> (Int32.toInt64 31 &&& 63))).toBitVec.toNat % 2 ^ 12 = (hR (eR s) + 0) % 4096 by rw [Nat.add_zero, Nat.mod_eq_of_lt hh]; rfl]
  refine lp_mSl hn hW hs (fun k hk => (hP.2.1 k hk).1) t1 t2 (t3.imp (fun q => q.1) id) ?_ t 0 (by omega)
  rcases t3 with ⟨z1, z2⟩ | ⟨k, k1, k2, k3⟩
  · exact h0 t t1 z2 (fun u hu => by obtain ⟨k, q1, q2, q3⟩ := t2 u hu; rw [q2]; exact nI_ne0 (Nat.succ_pos k) (by omega)) z1
  · exact h1 k _ k1 k3 (Nat.mod_lt _ (by decide)) k2
theorem sp_comes {I : am_I} {L : am_L} {n dd : Nat} {st : PSt} {s : Sit} {G : Nat → Bool} (hn : n ≤ 16) (hW : plW n st) (hs : okS n s) (hP : reP I L st G) (hG : ∀ k, k < st.1 → G k = true → st.2.2.1 k ≤ dd) (hG0 : ∀ k, st.1 ≤ k → G k = false) (hdd : dd ≤ 9000)
    (h : ∀ I' L', (∀ a, a ≠ 186 → a ≠ 203 → a ≠ 204 → a ≠ 205 → I' a = I a) → (∀ k, k ≠ 35 → k ≠ 36 → I' 186 k = I 186 k) → (∀ a, a ≠ 202 → L' a = L a) → reP I' L' (plCm st s dd) G → Q none I' L' (gg Lx ρ)) : am_run (d + 2) m_Model_comes [.ref 186, .long (lN (eR s)), .int (nI dd)] I L (gg Lx ρ) Q := by
  have hN := hW.1
  obtain ⟨p1, p2, p3, p4⟩ := hP
  refine run_in rfl rfl ⟨rfl, rfl⟩ (sz_Model_comes_0 _ _ ?_)
  refine sp_mSl hn hW hs ⟨p1, p2, p3, p4⟩ (fun k a k1 k2 a1 a2 => ?_) (fun t t1 t2 t3 t4 => ?_)
  · have ec : (nI a).toNatClampNeg = a := nI_clamp (by omega)
    have hpos : 0 < I 205 (nI a).toNatClampNeg := by rw [ec, a2]; exact nI_lt (a := 0) (by omega) (by omega)
    have e1 : I 205 (nI a).toNatClampNeg - 1 = nI k := by rw [ec, a2, nI_pred]
    have hdk := (hW.2.1 k k1).2
    obtain ⟨q1, q2, q3⟩ := p2 k k1
    have same : plCm st s dd = (st.1, st.2.1, fU st.2.2.1 k (min (st.2.2.1 k) dd), st.2.2.2) := plCm_f hW k1 k2
    have keep : st.2.2.1 k ≤ dd → reP I L (plCm st s dd) G := fun hle => by
      rw [same]
      refine ⟨p1, fun j hj => ?_, p3, p4⟩
      have e : fU st.2.2.1 k (min (st.2.2.1 k) dd) j = st.2.2.1 j := by
        by_cases z : j = k
        · subst z; rw [fU_at]; exact Nat.min_eq_left hle
        · exact fU_ne z
      show _ ∧ I 203 j = nI (fU st.2.2.1 k (min (st.2.2.1 k) dd) j) ∧ _
      rw [e]; exact p2 j hj
    refine sz_Model_comes_5 _ _ _ _ _ (vp_in_nI a1 (by decide)) (fun z => absurd hpos z) (fun z => absurd hpos z) (fun z => absurd hpos z) (fun _ => by rw [e1]; exact vp_in_nI (by omega) (by decide)) (fun _ z => ?_) (fun _ z z2 => ?_) (fun _ z z2 => ?_)
    · rw [e1, nI_clamp (by omega), q3] at z
      exact h I L (fun _ _ _ _ _ => rfl) (fun _ _ _ => rfl) (fun _ _ => rfl) (keep (hG k k1 (bI1 z)))
    · rw [e1, nI_clamp (by omega), q2] at z2
      refine h I L (fun _ _ _ _ _ => rfl) (fun _ _ _ => rfl) (fun _ _ => rfl) (keep ?_)
      exact Classical.byContradiction fun y => z2 (nI_lt (by omega) (by omega))
    · rw [e1, nI_clamp (by omega)] at z2 ⊢
      rw [q2] at z2
      have hlt : dd < st.2.2.1 k := Classical.byContradiction fun y => absurd z2 (nI_nlt (by omega) (by omega))
      refine h _ L (fun a _ z3 _ _ => am_u_ne z3) (fun j _ _ => by rw [am_u_ne (by decide)]) (fun _ _ => rfl) ?_
      rw [same]
      refine ⟨by rw [am_u_ne (by decide)]; exact p1, fun j hj => ?_, by rw [am_u_ne (by decide)]; exact p3, by rw [am_u_ne (by decide)]; exact p4⟩
      refine ⟨(p2 j hj).1, ?_, by rw [am_u_ne (by decide)]; exact (p2 j hj).2.2⟩
      show am_u I 203 k (nI dd) 203 j = nI (fU st.2.2.1 k (min (st.2.2.1 k) dd) j)
      by_cases y : j = k
      · subst y; rw [am_u_at, fU_at, Nat.min_eq_right (by omega)]
      · rw [am_u_nk y, fU_ne y]; exact (p2 j hj).2.1
  · have hm := Nat.mod_lt (hR (eR s) + t) (show 0 < 4096 by decide)
    have ec : (nI ((hR (eR s) + t) % 4096)).toNatClampNeg = (hR (eR s) + t) % 4096 := nI_clamp (by omega)
    have hno : ¬ 0 < I 205 (nI ((hR (eR s) + t) % 4096)).toNatClampNeg := by rw [ec, t4]; decide
    have h1000 : I 186 35 = 1000 ↔ st.1 = 1000 := by rw [p1]; exact nI_eq (b := 1000) (by omega) (by decide)
    refine sz_Model_comes_5 _ _ _ _ _ (vp_in_nI hm (by decide)) (fun _ z => ?_) (fun _ z => ?_) (fun _ z => ?_) (fun z => absurd z hno) (fun z => absurd z hno) (fun z => absurd z hno) (fun z => absurd z hno)
    · have hlt : st.1 < 1000 := by
        have : ¬ st.1 = 1000 := fun q => z (h1000.mpr q)
        omega
      rw [p1]; exact vp_in_nI hlt (by decide)
    · have hlt : st.1 < 1000 := by
        have : ¬ st.1 = 1000 := fun q => z (h1000.mpr q)
        omega
      rw [ec, p1, nI_clamp (by omega), nI_1]
      refine h _ _ (fun a z1 z2 z3 z4 => by rw [am_u_ne z1, am_u_ne z3, am_u_ne z2, am_u_ne z4]) (fun j z5 z6 => by rw [am_u_nk z5, am_u_ne (by decide), am_u_ne (by decide), am_u_ne (by decide)]) (fun a z => am_u_ne z) ?_
      rw [plCm_n t2, if_pos hlt]
      refine ⟨by rw [am_u_at], fun j hj => ?_, ?_, by rw [am_u_nk (by decide), am_u_ne (by decide), am_u_ne (by decide), am_u_ne (by decide)]; exact p4⟩
      · have hj : j < st.1 + 1 := hj
        show am_u L 202 st.1 _ 202 j = lN (eR (fU st.2.1 st.1 _ j)) ∧ _ = nI (fU st.2.2.1 st.1 dd j) ∧ _
        rw [am_u_ne (show 203 ≠ 186 by decide), am_u_ne (show 203 ≠ 204 by decide), am_u_ne (show 204 ≠ 186 by decide)]
        by_cases y : j = st.1
        · rw [y, am_u_at, am_u_at, am_u_at, fU_at, fU_at, hG0 st.1 (Nat.le_refl _)]; exact ⟨rfl, rfl, rfl⟩
        · rw [am_u_nk y, am_u_nk y, am_u_nk y, fU_ne y, fU_ne y, am_u_ne (show 203 ≠ 205 by decide), am_u_ne (show 204 ≠ 203 by decide), am_u_ne (show 204 ≠ 205 by decide)]; exact p2 j (by omega)
      · refine tb_put (t := t) (h0 := hR (eR s)) p3 (by decide) (by decide) (by omega) t1 t3 t4 ?_ (fun a z => ?_) (fun k hk => ?_) ?_
        · rw [am_u_ne (show 205 ≠ 186 by decide), am_u_ne (show 205 ≠ 204 by decide), am_u_ne (show 205 ≠ 203 by decide), am_u_at]
        · rw [am_u_ne (show 205 ≠ 186 by decide), am_u_ne (show 205 ≠ 204 by decide), am_u_ne (show 205 ≠ 203 by decide), am_u_nk z]
        · show hR (eR (fU st.2.1 st.1 _ k)) = _
          rw [fU_ne (by omega)]
        · show hR (eR (fU st.2.1 st.1 _ st.1)) = _
          rw [fU_at]
    · have hge : ¬ st.1 < 1000 := by have := h1000.mp z; omega
      refine h _ L (fun a z1 _ _ _ => am_u_ne z1) (fun j _ z6 => am_u_nk z6) (fun _ _ => rfl) ?_
      rw [plCm_n t2, if_neg hge]
      exact ⟨by rw [am_u_nk (by decide)]; exact p1, fun j hj => by rw [am_u_ne (by decide), am_u_ne (by decide)]; exact p2 j hj, by rw [am_u_ne (by decide)]; exact p3, by rw [am_u_at]; rfl⟩
theorem lp_nO {I : am_I} {L : am_L} {n c : Nat} {ls : List Nat} {x1 x2 : Int32} (hn : n ≤ 16) (hls : ls.length = n) (h7 : ∀ x ∈ ls, x ≤ 7) (hn1 : I 198 1 = nI n) (h3 : ∀ j, j < n → I 198 (7 + 5 * j + 3) = nI (ls.getD j 0)) (h : Q (some (.long (lN (lsR c ls)))) I L (gg Lx ρ)) : ∀ suf pre, ls = pre ++ suf → am_W am_all (am_run (d + 1)) e_Model_numberOf Q 20 [.ref 186, .int x1, .int x2, .long (lN (lsR c pre)), .null, .int (nI pre.length)] [] I L (gg Lx ρ) 0 0
  | [], pre, e => by
    have e : ls = pre := e.trans (List.append_nil pre)
    rw [← e]
    have hno : ¬ nI ls.length < I 198 1 := by rw [hn1, hls]; exact nI_nlt (Nat.le_refl _) (by omega)
    exact sy_Model_numberOf_20 _ _ _ _ (fun _ => h) (fun z => absurd z hno) (fun z => absurd z hno)
  | x :: suf, pre, e => by
    have hpl : pre.length < n := by rw [← hls, e]; simp
    have hyes : nI pre.length < I 198 1 := by rw [hn1]; exact nI_lt hpl (by omega)
    have ex : ls.getD pre.length 0 = x := by rw [e, List.getD_eq_getElem?_getD, List.getElem?_append_right (Nat.le_refl _), Nat.sub_self]; rfl
    have hx := h7 x (by rw [e]; simp)
    have er : mR I (nI pre.length) 3 = nI x := by rw [show mR I (nI pre.length) 3 = I 198 (7 + 5 * pre.length + 3) from mR_n (c := 3) (by omega), h3 _ hpl, ex]
    refine sy_Model_numberOf_20 _ _ _ _ (fun z => absurd hyes z) (fun _ => oR_n (c := 3) (by omega)) (fun _ => ?_)
    rw [er, nI_l (by omega), show (8 : Int64) = lN 8 from rfl, lN_mul, lN_add, nI_1, ← lsR_sn, show pre.length + 1 = (pre ++ [x]).length by simp]
    exact lp_nO hn hls h7 hn1 h3 h suf (pre ++ [x]) (by rw [e]; simp)
theorem sp_nO {I : am_I} {L : am_L} {n p : Nat} {b : Bool} {ls : List Nat} {x : Int32} (hn : n ≤ 16) (hp : p < 10) (hx : x = bI (b = true)) (hls : ls.length = n) (h7 : ∀ x ∈ ls, x ≤ 7) (hn1 : I 198 1 = nI n) (h3 : ∀ j, j < n → I 198 (7 + 5 * j + 3) = nI (ls.getD j 0)) (h : Q (some (.long (lN (eR (p, b, ls))))) I L (gg Lx ρ)) : am_run (d + 2) m_Model_numberOf [.ref 186, .int (nI p), .int x] I L (gg Lx ρ) Q := by
  subst hx
  have key : ∀ x3 : Int64, x3 = lN (2 * p + b01 b) → am_W am_all (am_run (d + 1)) e_Model_numberOf Q 20 [.ref 186, .int (nI p), .int (bI (b = true)), .long x3, .null, .int 0] [] I L (gg Lx ρ) 0 0 := fun x3 e => by
    subst e
    exact lp_nO (c := 2 * p + b01 b) hn hls h7 hn1 h3 h ls [] rfl
  refine run_in rfl rfl ⟨rfl, rfl⟩ (sy_Model_numberOf_0 _ _ (fun z => key _ ?_) (fun z => key _ ?_))
  · rw [nI_l (by omega), show (2 : Int64) = lN 2 from rfl, show (0 : Int64) = lN 0 from rfl, lN_mul, lN_add]
    unfold b01; rw [if_neg (bI0 z)]
  · rw [nI_l (by omega), show (2 : Int64) = lN 2 from rfl, show (1 : Int64) = lN 1 from rfl, lN_mul, lN_add]
    unfold b01; rw [if_pos (bI1 z)]
theorem lp_std {I : am_I} {L : am_L} {K : am_C} {f : Nat → Int32} {n c : Nat} {ls ls0 : List Nat} {x1 : Int32} (hn : n ≤ 16) (hc : c < 20) (hls : ls.length = n) (h7 : ∀ x ∈ ls, x ≤ 7) (h0 : I 198 = fL f n ls0)
    (h : ∀ I', (∀ a, a ≠ 198 → I' a = I a) → I' 198 = fL f n ls → Q (some (.int (nI c))) I' L (gg Lx ρ)) : ∀ pre suf I', ls = pre ++ suf → (∀ a, a ≠ 198 → I' a = I a) → (∀ i, ¬ (i % 5 = 0 ∧ 10 ≤ i ∧ i < 10 + 5 * n) → I' 198 i = f i) → (∀ j, pre.length ≤ j → j < n → I' 198 (7 + 5 * j + 3) = nI (ls.getD j 0)) → am_W am_all K e_Model_stands Q 17 [.ref 186, .int x1, .long (lN (lsR c pre)), .null, .int (nI pre.length - 1)] [] I' L (gg Lx ρ) 0 0 := by
  refine snoc_ind (fun suf I' e hf ho hv => ?_) (fun pre x ih suf I' e hf ho hv => ?_)
  · have hneg : nI ([] : List Nat).length - 1 < 0 := by decide
    refine sz_Model_stands_17 _ _ _ (fun _ => ?_) (fun z => absurd hneg z) (fun z => absurd hneg z)
    rw [show lsR c [] = c from rfl, lN_i]
    refine h I' hf (funext fun i => ?_)
    by_cases z : i % 5 = 0 ∧ 10 ≤ i ∧ i < 10 + 5 * n
    · have e5 : i = 7 + 5 * ((i - 10) / 5) + 3 := by omega
      rw [e5, fL_3 (by omega)]
      exact hv _ (Nat.zero_le _) (by omega)
    · rw [fL_o z]; exact ho i z
  · have hpl : pre.length < n := by rw [← hls, e]; simp
    have hx : x ≤ 7 := h7 x (by rw [e]; simp)
    have e1 : nI (pre ++ [x]).length - 1 = nI pre.length := by rw [List.length_append]; exact nI_pred _
    have hb := lsR_lt hc (pre ++ [x]) (fun y hy => h7 y (by rw [e]; exact List.mem_append_left _ hy))
    have h16 := p8_16 (n := (pre ++ [x]).length) (by simp; omega)
    have k10 : ((7 + (5 * nI pre.length)) + (3 : Int32)) = nI (7 + 5 * pre.length + 3) := by rw [show (7 : Int32) = nI 7 from rfl, show (5 : Int32) = nI 5 from rfl, show (3 : Int32) = nI 3 from rfl, pk_mul, nI_add, nI_add]
    have ev : Int64.toInt32 (lN (lsR c (pre ++ [x])) &&& 7) = nI x := by
      rw [show (7 : Int64) = lN (2 ^ 3 - 1) from rfl, wb_mask (by omega) (by decide), lN_i, lsR_sn]
      congr 1
      show (8 * lsR c pre + x) % 8 = x
      omega
    have es : lN (lsR c (pre ++ [x])) >>> (Int32.toInt64 3 &&& 63) = lN (lsR c pre) := by
      rw [show ((3 : Int32) = nI 3) from rfl, shrK (by decide) (by omega), lsR_sn]
      congr 1
      show (8 * lsR c pre + x) / 8 = lsR c pre
      omega
    have ex : ls.getD pre.length 0 = x := by rw [e, List.append_assoc, List.getD_eq_getElem?_getD, List.getElem?_append_right (Nat.le_refl _), Nat.sub_self]; rfl
    rw [e1]
    refine sz_Model_stands_17 _ _ _ (fun z => absurd z (nI_pos (by omega))) (fun _ => by rw [k10]; exact vp_in_nI (by omega) (by decide)) (fun _ => ?_)
    rw [k10, nI_clamp (by omega), ev, es, show nI pre.length + (-1) = nI pre.length - 1 from (Int32.sub_eq_add_neg _ _).symm]
    refine ih (x :: suf) _ (by rw [e]; simp) (fun a z => by rw [am_u_ne z]; exact hf a z) (fun i z => ?_) (fun j h1 h2 => ?_)
    · rw [am_u_nk (fun q => z (by subst q; exact ⟨by omega, by omega, by omega⟩))]; exact ho i z
    · by_cases y : j = pre.length
      · subst y; rw [am_u_at, ex]
      · rw [am_u_nk (by omega)]; exact hv j (by simp; omega) h2
theorem sp_std {I : am_I} {L : am_L} {f : Nat → Int32} {n i : Nat} {s : Sit} {ls0 : List Nat} (hn : n ≤ 16) (hs : okS n s) (hn1 : f 1 = nI n) (hi : i < 1000) (hL : L 202 i = lN (eR s)) (h0 : I 198 = fL f n ls0)
    (h : ∀ I', (∀ a, a ≠ 198 → I' a = I a) → I' 198 = fL f n s.2.2 → Q (some (.int (nI (2 * s.1 + b01 s.2.1)))) I' L (gg Lx ρ)) : am_run (d + 1) m_Model_stands [.ref 186, .int (nI i)] I L (gg Lx ρ) Q := by
  have hp := hs.1
  have hb := b01_le s.2.1
  refine run_in rfl rfl ⟨rfl, rfl⟩ (sz_Model_stands_0 _ (vp_in_nI hi (by decide)) ?_)
  rw [nI_clamp (by omega), hL, h0, fL_o (by omega), hn1, ← hs.2.1]
  exact lp_std (c := 2 * s.1 + b01 s.2.1) hn (by omega) hs.2.1 hs.2.2 h0 h s.2.2 [] I (by simp) (fun _ _ => rfl) (fun i z => by rw [h0]; exact fL_o z) (fun j h1 h2 => absurd h1 (by rw [hs.2.1]; omega))
end PLM
