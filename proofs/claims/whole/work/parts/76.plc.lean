/-! ===== plan of the class: coming ===== -/
theorem pf_lI {a : Nat} (h : a < 2 ^ 63) : (lN a).toInt = (a : Int) := lg_ofNat_toInt h
theorem pf_shr {a d : Nat} {D : Int64} (hD : (D.toBitVec.smod 64).toNat = d) (h : a < 2 ^ 62) : lN a >>> D = lN (a / 2 ^ d) := by
  have hd : a / 2 ^ d ≤ a := Nat.div_le_self _ _
  apply Int64.toInt_inj.mp
  have e : (lN a >>> D).toInt = (lN a).toInt >>> d := by
    rw [← hD]
    exact BitVec.toInt_sshiftRight ..
  rw [e, Int.shiftRight_eq_div_pow, pf_lI (by omega), pf_lI (by omega)]
  rfl
theorem lsmod : ∀ k, k < 64 → ((lN k).toBitVec.smod 64).toNat = k := by decide +kernel
theorem shrK {a k : Nat} (hk : k < 64) (h : a < 2 ^ 62) : lN a >>> ((nI k).toInt64 &&& 63) = lN (a / 2 ^ k) := by
  rw [wb_c k hk]; exact pf_shr (lsmod k hk) h
theorem lg0 {x y : Int64} : lg_cmp x y = 0 ↔ x = y := by
  unfold lg_cmp
  constructor
  · intro h
    split at h
    · exact absurd h (by decide)
    · split at h
      · assumption
      · exact absurd h (by decide)
  · intro h
    subst h
    rw [if_neg (fun q => lg_lt_ne q rfl), if_pos rfl]
theorem orP {a x k : Nat} (hx : x < 2 ^ k) : a * 2 ^ k ||| x = a * 2 ^ k + x := by
  rw [Nat.mul_comm]; exact (Nat.two_pow_add_eq_or_of_lt hx a).symm
theorem shlor {a x k : Nat} (hk : k < 30) (hx : x < 2 ^ k) (ha : a * 2 ^ k < 2 ^ 62) : (lN a <<< ((nI k).toInt64 &&& 63)) ||| Int32.toInt64 (nI x) = lN (a * 2 ^ k + x) := by
  have h1 : 2 ^ k < 2 ^ 30 := Nat.pow_lt_pow_right (by decide) hk
  rw [wb_shl _ (by omega), nI_l (by omega), wb_or (by omega) (by omega), orP hx]
def hC (e : Nat) : Nat := (Int64.toInt32 ((Int64.toUInt64 (lN e * (-7046029254386353131)) >>> ((Int32.toInt64 40).toUInt64 &&& Int64.toUInt64 63)).toInt64)).toBitVec.toNat % 2 ^ 11
def clP (I : am_I) (L : am_L) (st : PSt) : Prop := I 36 5 = nI st.1 ∧ (∀ k, k < st.1 → L 37 k = lN (eC (st.2.1 k)) ∧ I 38 k = nI (st.2.2.1 k)) ∧ tbl (I 39) 2048 st.1 (fun k => hC (eC (st.2.1 k))) ∧ I 36 7 = bI (st.2.2.2 = true) ∧ ∃ mx, I 36 6 = nI mx ∧ mx ≤ 9000 ∧ ∀ k, k < st.1 → st.2.2.1 k ≤ mx
theorem cMin_n {a b : Nat} (ha : a < 2 ^ 31) (hb : b < 2 ^ 31) : cMin (nI a) (nI b) = nI (min a b) := by
  unfold cMin
  by_cases h : b < a
  · rw [if_pos (nI_lt h ha), Nat.min_eq_right (by omega)]
  · rw [if_neg (nI_nlt (by omega) hb), Nat.min_eq_left (by omega)]
theorem cMax_n {a b : Nat} (ha : a < 2 ^ 31) (hb : b < 2 ^ 31) : cMax (nI a) (nI b) = nI (max a b) := by
  unfold cMax
  by_cases h : a < b
  · rw [if_pos (nI_lt h hb), Nat.max_eq_right (by omega)]
  · rw [if_neg (nI_nlt (by omega) ha), Nat.max_eq_left (by omega)]
section PLC
variable {d Lx : Nat} {ρ : List (Nat × Nat)} {Q : am_Q} {Rs : List (List (Nat × List Nat))}
theorem lp_cSl {I : am_I} {L : am_L} {K : am_C} {n t h0 : Nat} {st : PSt} {s : Sit} {x3 : Int64} (hn : n ≤ 16) (hW : plW n st) (hs : okS n s) (hk1 : ∀ k, k < st.1 → L 37 k = lN (eC (st.2.1 k))) (ht : t < 2048) (hpre : ∀ u, u < t → ∃ k, k < st.1 ∧ I 39 ((h0 + u) % 2048) = nI (k + 1) ∧ ¬ st.2.1 k = s) (hend : I 39 ((h0 + t) % 2048) = 0 ∨ ∃ k, k < st.1 ∧ I 39 ((h0 + t) % 2048) = nI (k + 1) ∧ st.2.1 k = s) (h : Q (some (.int (nI ((h0 + t) % 2048)))) I L (gg Lx ρ)) : ∀ q u (x7 : Value), u + q = t → am_W am_all K e_Planner_slotOf Q 20 [.ref 36, .long (lN (eC s)), .null, .long x3, .null, .int (nI ((h0 + u) % 2048)), .int (nI u), x7] [] I L (gg Lx ρ) 0 0
  | 0, u, x7, e => by
    have e : u = t := e
    subst e
    have hm := Nat.mod_lt (h0 + u) (show 0 < 2048 by decide)
    have hy : nI u < 2048 := nI_lt (b := 2048) (by omega) (by decide)
    have ec : (nI ((h0 + u) % 2048)).toNatClampNeg = (h0 + u) % 2048 := nI_clamp (by omega)
    refine sz_Planner_slotOf_20 _ _ _ _ _ (fun z => absurd hy z) (fun _ => vp_in_nI hm (by decide)) (fun _ _ => h) (fun _ _ _ => h) (fun _ z z2 => ?_) (fun _ z z2 z3 => ?_) (fun _ _ _ _ => h)
    · rw [ec] at z z2 ⊢
      rcases hend with q | ⟨k, k1, k2, k3⟩
      · rw [q] at z; exact absurd (by decide) z
      · have := hW.1
        rw [k2, nI_pred]; exact vp_in_nI (by omega) (by decide)
    · rw [ec] at z z2 z3
      rcases hend with q | ⟨k, k1, k2, k3⟩
      · rw [q] at z; exact absurd (by decide) z
      · have := hW.1
        rw [k2, nI_pred, nI_clamp (by omega), hk1 k k1, k3] at z3
        exact absurd (lg0.mpr rfl) z3
  | q + 1, u, x7, e => by
    have hm := Nat.mod_lt (h0 + u) (show 0 < 2048 by decide)
    have hy : nI u < 2048 := nI_lt (b := 2048) (by omega) (by decide)
    have ec : (nI ((h0 + u) % 2048)).toNatClampNeg = (h0 + u) % 2048 := nI_clamp (by omega)
    obtain ⟨k, k1, k2, k3⟩ := hpre u (by omega)
    have hN := hW.1
    have e1 : I 39 (nI ((h0 + u) % 2048)).toNatClampNeg - 1 = nI k := by rw [ec, k2, nI_pred]
    have hne : ¬ lg_cmp (L 37 (I 39 (nI ((h0 + u) % 2048)).toNatClampNeg - 1).toNatClampNeg) (lN (eC s)) = 0 := by
      rw [e1, nI_clamp (by omega), hk1 k k1, lg0]
      have b1 := eC_lt hn (hW.2.1 k k1).1
      have b2 := eC_lt hn hs
      intro z
      exact k3 (eC_inj (hW.2.1 k k1).1 hs ((pk_lEQ (by omega) (by omega)).mp z))
    have hneg : ¬ I 39 (nI ((h0 + u) % 2048)).toNatClampNeg - 1 < 0 := by rw [e1]; exact nI_pos (by omega)
    have h1000 : I 39 (nI ((h0 + u) % 2048)).toNatClampNeg - 1 < 1000 := by rw [e1]; exact nI_lt (b := 1000) (by omega) (by decide)
    refine sz_Planner_slotOf_20 _ _ _ _ _ (fun z => absurd hy z) (fun _ => vp_in_nI hm (by decide)) (fun _ z => absurd z hneg) (fun _ _ z => absurd h1000 z) (fun _ _ _ => by rw [e1]; exact vp_in_nI (by omega) (by decide)) (fun _ _ _ _ => ?_) (fun _ _ _ z => absurd z hne)
    have e2 : (nI ((h0 + u) % 2048) + 1) &&& 2047 = nI ((h0 + (u + 1)) % 2048) := by
      rw [nI_1, pk_andN (by omega) 11 (by decide)]
      congr 1
      show ((h0 + u) % 2048 + 1) % 2048 = (h0 + (u + 1)) % 2048
      omega
    rw [e2, nI_1]
    exact lp_cSl hn hW hs hk1 ht hpre hend h q (u + 1) _ (by omega)
theorem sp_cSl {I : am_I} {L : am_L} {n : Nat} {st : PSt} {s : Sit} (hn : n ≤ 16) (hW : plW n st) (hs : okS n s) (hP : clP I L st)
    (h1 : ∀ k a, k < st.1 → st.2.1 k = s → a < 2048 → I 39 a = nI (k + 1) → Q (some (.int (nI a))) I L (gg Lx ρ))
    (h0 : ∀ t, t < 2048 → (∀ k, k < st.1 → ¬ st.2.1 k = s) → (∀ u, u < t → ¬ I 39 ((hC (eC s) + u) % 2048) = 0) → I 39 ((hC (eC s) + t) % 2048) = 0 → Q (some (.int (nI ((hC (eC s) + t) % 2048)))) I L (gg Lx ρ)) : am_run (d + 1) m_Planner_slotOf [.ref 36, .long (lN (eC s))] I L (gg Lx ρ) Q := by
  have hN := hW.1
  obtain ⟨t, t1, t2, t3⟩ := tb_look (key := fun k => st.2.1 k = s) (h0 := hC (eC s)) hP.2.2.1 (by omega) (by decide) (fun k hk e => by show hC (eC (st.2.1 k)) = _; rw [e])
  have hh : hC (eC s) < 2048 := Nat.mod_lt _ (by decide)
  refine run_in rfl rfl ⟨rfl, rfl⟩ (sz_Planner_slotOf_0 _ ?_)
  have e0 : (Int64.toInt32 ((Int64.toUInt64 (lN (eC s) * (-7046029254386353131)) >>> ((Int32.toInt64 40).toUInt64 &&& Int64.toUInt64 63)).toInt64)) &&& 2047 = nI ((hC (eC s) + 0) % 2048) := by
    rw [pk_and _ 11 (by decide), Nat.add_zero, Nat.mod_eq_of_lt hh]; rfl
  rw [e0]
  refine lp_cSl hn hW hs (fun k hk => (hP.2.1 k hk).1) t1 t2 (t3.imp (fun q => q.1) id) ?_ t 0 _ (by omega)
  rcases t3 with ⟨z1, z2⟩ | ⟨k, k1, k2, k3⟩
  · exact h0 t t1 z2 (fun u hu => by obtain ⟨k, q1, q2, q3⟩ := t2 u hu; rw [q2]; exact nI_ne0 (Nat.succ_pos k) (by omega)) z1
  · exact h1 k _ k1 k3 (Nat.mod_lt _ (by decide)) k2
/-- a situation comes -/
theorem sp_come {I : am_I} {L : am_L} {n p lies dd : Nat} {b : Bool} {ls : List Nat} {st : PSt} (hn : n ≤ 16) (hp : p < 10) (hl : lies < 10) (hls : ls.length = n) (hls7 : ∀ x ∈ ls, x ≤ 7) (hW : plW n st) (hP : clP I L st) (h406 : I 40 6 = nI n) (h44 : ∀ j x, ls[j]? = some x → I 44 j = nI x) (h9 : I 36 9 = nI lies) (hdd : dd ≤ 9 * st.1) (hdd2 : dd ≤ 9000)
    (h : ∀ I' L', (∀ a, a ≠ 36 → a ≠ 38 → a ≠ 39 → I' a = I a) → (∀ k, k ≠ 5 → k ≠ 6 → k ≠ 7 → I' 36 k = I 36 k) → (∀ a, a ≠ 37 → L' a = L a) → clP I' L' (plCm st (p, b || decide (p = lies), ls) dd) → Q none I' L' (gg Lx ρ)) : am_run (d + 2) m_Planner_come [.ref 36, .int (nI p), .int (bI (b = true)), .int (nI dd)] I L (gg Lx ρ) Q := by
  have hs : okS n (p, b || decide (p = lies), ls) := ⟨hp, hls, hls7⟩
  have hN := hW.1
  have fin : ∀ (x4 : Int64) (x6 : Int32) (x7 : Value), x4 = lN (eC (p, b || decide (p = lies), ls)) → am_run (d + 1) m_Planner_slotOf [.ref 36, .long x4] I L (gg Lx ρ) (fun r I' L' G' => am_W am_all (am_run (d + 1)) e_Planner_come Q 83 [.ref 36, .int (nI p), .int (bI (b = true)), .int (nI dd), .long x4, .null, .int x6, x7] (r.toList ++ ([] : List Value)) I' L' G' 0 0) := by
    intro x4 x6 x7 e4
    subst e4
    obtain ⟨p5, p2, p3, p7, mx, p6, pm, pd⟩ := hP
    refine sp_cSl hn hW hs ⟨p5, p2, p3, p7, mx, p6, pm, pd⟩ (fun k a k1 k2 a1 a2 => ?_) (fun t t1 t2 t3 t4 => ?_)
    · have ec : (nI a).toNatClampNeg = a := nI_clamp (by omega)
      have e1 : I 39 (nI a).toNatClampNeg - 1 = nI k := by rw [ec, a2, nI_pred]
      have hneg : ¬ I 39 (nI a).toNatClampNeg - 1 < 0 := by rw [e1]; exact nI_pos (by omega)
      have h1000 : I 39 (nI a).toNatClampNeg - 1 < 1000 := by rw [e1]; exact nI_lt (b := 1000) (by omega) (by decide)
      refine sy_Planner_come_83 _ _ _ _ _ _ _ (vp_in_nI a1 (by decide)) (fun z => absurd z hneg) (fun z => absurd z hneg) (fun z => absurd z hneg) (fun _ z => absurd h1000 z) (fun _ z => absurd h1000 z) (fun _ z => absurd h1000 z) (fun _ _ => by rw [e1]; exact vp_in_nI (by omega) (by decide)) (fun _ _ => ?_)
      have hdk := (hW.2.1 k k1).2
      rw [e1, nI_clamp (by omega), (p2 k k1).2, cMin_n (by omega) (by omega)]
      refine h _ L (fun a z1 z2 z3 => am_u_ne z2) (fun j _ _ _ => by rw [am_u_ne (by decide)]) (fun _ _ => rfl) ?_
      rw [plCm_f hW k1 k2]
      refine ⟨by rw [am_u_ne (by decide)]; exact p5, fun j hj => ⟨(p2 j hj).1, ?_⟩, by rw [am_u_ne (by decide)]; exact p3, by rw [am_u_ne (by decide)]; exact p7, mx, by rw [am_u_ne (by decide)]; exact p6, pm, fun j hj => ?_⟩
      · show am_u I 38 k _ 38 j = nI (fU st.2.2.1 k _ j)
        by_cases z : j = k
        · subst z; rw [am_u_at, fU_at]
        · rw [am_u_nk z, fU_ne z]; exact (p2 j hj).2
      · show fU st.2.2.1 k _ j ≤ mx
        by_cases z : j = k
        · subst z; rw [fU_at]; exact Nat.le_trans (Nat.min_le_left _ _) (pd j hj)
        · rw [fU_ne z]; exact pd j hj
    · have hm := Nat.mod_lt (hC (eC (p, b || decide (p = lies), ls)) + t) (show 0 < 2048 by decide)
      have ec : (nI ((hC (eC (p, b || decide (p = lies), ls)) + t) % 2048)).toNatClampNeg = (hC (eC (p, b || decide (p = lies), ls)) + t) % 2048 := nI_clamp (by omega)
      have hneg : I 39 (nI ((hC (eC (p, b || decide (p = lies), ls)) + t) % 2048)).toNatClampNeg - 1 < 0 := by rw [ec, t4]; decide
      refine sy_Planner_come_83 _ _ _ _ _ _ _ (vp_in_nI hm (by decide)) (fun _ z => ?_) (fun _ z => ?_) (fun _ z => ?_) (fun z => absurd hneg z) (fun z => absurd hneg z) (fun z => absurd hneg z) (fun z => absurd hneg z) (fun z => absurd hneg z)
      · rw [p5] at z ⊢
        exact vp_in_nI (Classical.byContradiction fun q => absurd z (nI_nlt (b := 1000) (by omega) (by omega))) (by decide)
      · rw [p5] at z
        have hlt : st.1 < 1000 := Classical.byContradiction fun q => absurd z (nI_nlt (b := 1000) (by omega) (by omega))
        rw [ec, p5, p6, nI_clamp (by omega), nI_1, cMax_n (by omega) (by omega)]
        refine h _ _ (fun a z1 z2 z3 => by rw [am_u_ne z3, am_u_ne z1, am_u_ne z1, am_u_ne z2]) (fun j z5 z6 z7 => by rw [am_u_ne (by decide), am_u_nk z5, am_u_nk z6, am_u_ne (by decide)]) (fun a z => am_u_ne z) ?_
        rw [plCm_n t2, if_pos hlt]
        refine ⟨by rw [am_u_ne (by decide), am_u_at], fun j hj => ?_, ?_, by rw [am_u_ne (by decide), am_u_nk (by decide), am_u_nk (by decide), am_u_ne (by decide)]; exact p7, max mx dd, by rw [am_u_ne (by decide), am_u_nk (by decide), am_u_at], by omega, fun j hj => ?_⟩
        · have hj : j < st.1 + 1 := hj
          show am_u L 37 st.1 _ 37 j = lN (eC (fU st.2.1 st.1 _ j)) ∧ _ = nI (fU st.2.2.1 st.1 dd j)
          rw [am_u_ne (show 38 ≠ 39 by decide), am_u_ne (show 38 ≠ 36 by decide), am_u_ne (show 38 ≠ 36 by decide)]
          by_cases y : j = st.1
          · rw [y, am_u_at, am_u_at, fU_at, fU_at]; exact ⟨rfl, rfl⟩
          · rw [am_u_nk y, am_u_nk y, fU_ne y, fU_ne y]; exact p2 j (by omega)
        · refine tb_put (t := t) (h0 := hC (eC (p, b || decide (p = lies), ls))) p3 (by decide) (by decide) (by omega) t1 t3 t4 am_u_at (fun a z => ?_) (fun k hk => ?_) ?_
          · rw [am_u_nk z, am_u_ne (by decide), am_u_ne (by decide), am_u_ne (by decide)]
          · show hC (eC (fU st.2.1 st.1 _ k)) = _
            rw [fU_ne (by omega)]
          · show hC (eC (fU st.2.1 st.1 _ st.1)) = _
            rw [fU_at]
        · have hj : j < st.1 + 1 := hj
          show fU st.2.2.1 st.1 dd j ≤ _
          by_cases y : j = st.1
          · rw [y, fU_at]; exact Nat.le_max_right _ _
          · rw [fU_ne y]; exact Nat.le_trans (pd j (by omega)) (Nat.le_max_left _ _)
      · rw [p5] at z
        have hge : ¬ st.1 < 1000 := fun q => z (nI_lt (b := 1000) q (by decide))
        refine h _ L (fun a z1 z2 z3 => am_u_ne z1) (fun j z5 z6 z7 => am_u_nk z7) (fun _ _ => rfl) ?_
        rw [plCm_n t2, if_neg hge]
        refine ⟨by rw [am_u_nk (by decide)]; exact p5, fun j hj => by rw [am_u_ne (by decide)]; exact p2 j hj, by rw [am_u_ne (by decide)]; exact p3, by rw [am_u_at]; rfl, mx, by rw [am_u_nk (by decide)]; exact p6, pm, pd⟩
  have loop : ∀ pre suf (x7 : Value), ls = pre ++ suf → am_W am_all (am_run (d + 1)) e_Planner_come Q 14 [.ref 36, .int (nI p), .int (bI (b = true)), .int (nI dd), .long (lN (lsC suf)), .null, .int (nI pre.length - 1), x7] [] I L (gg Lx ρ) 0 0 := by
    refine snoc_ind (fun suf x7 e => ?_) (fun pre x ih suf x7 e => ?_)
    · have e : ls = suf := e
      subst e
      have hneg : nI ([] : List Nat).length - 1 < 0 := by decide
      have h8 := lsC_lt ls hls7
      have h16 := p8_16 hn
      rw [hls] at h8
      have g : ∀ y : Nat, y ≤ 1 → (((lN (lsC ls) <<< (Int32.toInt64 1 &&& 63)) ||| Int32.toInt64 (nI y)) <<< (Int32.toInt64 4 &&& 63)) ||| Int32.toInt64 (nI p) = lN ((lsC ls * 2 + y) * 16 + p) := by
        intro y hy
        have a1 := shlor (a := lsC ls) (x := y) (k := 1) (by decide) (by omega) (by omega)
        rw [show ((1 : Int32) = nI 1) from rfl, a1]
        have a2 := shlor (a := lsC ls * 2 ^ 1 + y) (x := p) (k := 4) (by decide) (by omega) (by omega)
        rw [show ((4 : Int32) = nI 4) from rfl, a2]
      refine sy_Planner_come_14 _ _ _ _ _ _ (fun _ z => ?_) (fun _ z z2 => ?_) (fun _ z z2 => ?_) (fun z => absurd hneg z) (fun z => absurd hneg z)
      · refine fin _ _ _ (Eq.trans (g 1 (by decide)) ?_)
        show lN _ = lN ((lsC ls * 2 + b01 (b || decide (p = lies))) * 16 + p)
        rw [bI1 z]; rfl
      · refine fin _ _ _ (Eq.trans (g 0 (by decide)) ?_)
        show lN _ = lN ((lsC ls * 2 + b01 (b || decide (p = lies))) * 16 + p)
        rw [h9] at z2
        rw [show b = false by cases hb : b with
          | false => rfl
          | true => exact absurd hb (bI0 z), decide_eq_false (fun q => z2 (by rw [q]))]; rfl
      · refine fin _ _ _ (Eq.trans (g 1 (by decide)) ?_)
        show lN _ = lN ((lsC ls * 2 + b01 (b || decide (p = lies))) * 16 + p)
        rw [h9] at z2
        rw [decide_eq_true ((nI_eq (by omega) (by omega)).mp z2), Bool.or_true]; rfl
    · have e1 : nI (pre ++ [x]).length - 1 = nI pre.length := by rw [List.length_append]; exact nI_pred _
      have hpl : pre.length < 16 := by
        rw [e] at hls
        simp at hls
        omega
      have hx7 : x ≤ 7 := hls7 x (by rw [e]; simp)
      have e4 : I 44 (nI pre.length).toNatClampNeg = nI x := by
        rw [nI_clamp (by omega)]
        exact h44 _ _ (by rw [e, List.append_assoc, List.getElem?_append_right (Nat.le_refl _), Nat.sub_self]; rfl)
      have h8 := lsC_lt (x :: suf) (fun y hy => hls7 y (by
        rw [e]
        rcases List.mem_cons.mp hy with q | q
        · rw [q]; simp
        · simp [q]))
      have h16 := p8_16 (n := (x :: suf).length) (by rw [e] at hls; simp at hls ⊢; omega)
      have h8 : lsC suf * 8 + x < 8 ^ (x :: suf).length := h8
      rw [e1]
      refine sy_Planner_come_14 _ _ _ _ _ _ (fun z => absurd z (nI_pos (by omega))) (fun z => absurd z (nI_pos (by omega))) (fun z => absurd z (nI_pos (by omega))) (fun _ => vp_in_nI (by omega) (by decide)) (fun _ => ?_)
      rw [e4, show ((3 : Int32) = nI 3) from rfl, shlor (k := 3) (by decide) (by omega) (by omega), show nI pre.length + (-1) = nI pre.length - 1 from (Int32.sub_eq_add_neg _ _).symm]
      exact ih (x :: suf) x7 (by rw [e]; simp)
  refine run_in rfl rfl ⟨rfl, rfl⟩ (sy_Planner_come_0 _ _ _ ?_)
  rw [h406, ← hls]
  exact loop ls [] _ (by simp)
end PLC
