/-! ===== who drove: the class's answer; the reference ===== -/
def dvV (n : Nat) (o : Option (Nat × (Nat → Int32))) : Bool := match o with
  | none => false
  | some st => dvA st.2 n
section DVM
variable {d Lx : Nat} {ρ : List (Nat × Nat)} {Q : am_Q} {Rs : List (List (Nat × List Nat))}
theorem dvL_len {f : Nat → Int32} {n m N : Nat} : ∀ k ds b, ds.length + k = N → (b.1 ≠ 0 → b.2.1.length = N) → ((dvL n (dvT Rs n m f) k ds b).1 ≠ 0 → (dvL n (dvT Rs n m f) k ds b).2.1.length = N)
  | 0, ds, b, e, h => by
    unfold dvL dvF
    split
    · exact h
    · split
      · intro _
        show (if b.1 = 0 then ds else b.2.1).length = N
        split
        · exact e
        · next z => exact h z
      · exact h
  | k + 1, ds, b, e, h => by
    have key : ∀ q i b, (b.1 ≠ 0 → b.2.1.length = N) → ((odF (fun l b => dvL n (dvT Rs n m f) k (ds ++ [l]) b) q i b).1 ≠ 0 → (odF (fun l b => dvL n (dvT Rs n m f) k (ds ++ [l]) b) q i b).2.1.length = N) := by
      intro q
      induction q with
      | zero => intro i b hb; exact hb
      | succ q ih => intro i b hb; exact ih (i + 1) _ (dvL_len k (ds ++ [i]) b (by simp; omega) hb)
    exact key 8 0 b h
def pDB (Rs : List (List (Nat × List Nat))) (f : Nat → Int32) (n m N : Nat) : Nat × List Nat × Nat := dvL n (dvT Rs n m f) N [] (0, [], 0)
theorem pDB_p {f : Nat → Int32} {n m N : Nat} (hN : N ≤ 3) : (pDB Rs f n m N).1 ≤ 512 ∧ ((pDB Rs f n m N).1 ≠ 0 → (pDB Rs f n m N).2.1.length = N) := by
  refine ⟨Nat.le_trans (dvL_le N [] (0, [], 0)) ?_, dvL_len N [] (0, [], 0) (by simp) (fun z => absurd rfl z)⟩
  have : 8 ^ N ≤ 8 ^ 3 := Nat.pow_le_pow_right (by decide) hN
  show 0 + 8 ^ N ≤ 512
  omega
def pDv (Rs : List (List (Nat × List Nat))) (f : Nat → Int32) (P n m : Nat) (c w : Int32) : Int32 :=
  if 0 < P ∧ (¬ c < 1 ∧ ¬ 3 < c) ∧ ((¬ w < 0 ∧ ¬ c < w) ∨ w = 4) then (if w = 0 then nI (pDB Rs f n m c.toNatClampNeg).1 else if w = 4 then (if (pDB Rs f n m c.toNatClampNeg).1 = 0 then 0 else nI (pDB Rs f n m c.toNatClampNeg).2.2) else if (pDB Rs f n m c.toNatClampNeg).1 = 0 then -2 else nI ((pDB Rs f n m c.toNatClampNeg).2.1.getD (w.toNatClampNeg - 1) 0)) else -1
theorem sp_findRows {I : am_I} {L : am_L} {f : Nat → Int32} {P n C m N : Nat} (hS : stS I 94 f n C m) (hwS : wfS Rs f P n C m) (hw : wfRs Rs) (hC : RCc I ρ Rs) (hN : N ≤ 3)
    (h : ∀ I' L', frA I I' → dvB I' (pDB Rs f n m N) → Q none I' L' (gg Lx ρ)) : am_run (d + 11) m_Orders_findRows [.ref 46, .ref 94, .int (nI N)] I L (gg Lx ρ) Q := by
  obtain ⟨hn1, hn16, hwf⟩ := hwS.n
  have hm := hwS.m
  have hP := hwS.P
  refine run_in rfl rfl ⟨rfl, rfl⟩ (sz_Orders_findRows_0 94 _ (by decide) ?_)
  refine sp_Orders_begin (d := d + 7) (k := 8) hS hn16 hm.2 (by decide) (fun I1 f1 i1 r1 => sz_Orders_findRows_7 94 _ (by decide) ?_)
  have FJ : ∀ a, a ≠ 46 → am_u (am_u I1 46 9 0) 46 10 0 a = I1 a := fun a z => by rw [am_u_ne z, am_u_ne z]
  have := dv_try (Lx := Lx) (ρ := ρ) (C := C) hwf hn16 hP.1 hP.2 hwS.l hm.2 hw hN (d + 4 - N) N
    (fun r I' L' G' => am_W am_all (am_run (d + 10)) e_Orders_findRows Q 25 [.ref 46, .ref 94, .int (nI N)] (r.toList ++ ([] : List Value)) I' L' G' 0 0) (am_u (am_u I1 46 9 0) 46 10 0) L [] (0, f) (0, [], 0) (by simp) rfl (by
      have : 8 ^ N ≤ 8 ^ 3 := Nat.pow_le_pow_right (by decide) hN
      show 0 + 8 ^ N ≤ 1000
      omega)
    (stS_fr (fun a h1 h2 => by rw [FJ a (by omega), f1 a (by omega)]) hS) (RCc_fr (by rw [FJ 21 (by omega), f1 21 (by omega)]) (fun a ha => by rw [FJ a (by omega), f1 a (by omega)]) hC)
    (odI_fr (fun a h1 h2 h3 h4 h5 => FJ a (by omega)) (by rw [am_u_nk (by decide), am_u_nk (by decide)]) i1) (rdR_fr (fun a h1 h2 => FJ a (by simp at h1; omega)) (r1 0 (by omega))) ⟨by rw [am_u_nk (by decide), am_u_at]; rfl, fun z => absurd rfl z, fun _ => am_u_at, by show 0 < 256; decide, fun j l z => absurd z (by simp)⟩ (fun j l z => absurd z (by simp)) (fun I2 L2 r2 i2 b2 => ?_)
  · rw [show d + 4 - N + N + 6 = d + 10 by omega] at this
    exact this
  · refine sz_Orders_findRows_25 94 _ (by decide) (h I2 L2 (fun a z => ?_) b2)
    rw [r2.1 a (by omega) (by omega) (by omega) (by omega) (by omega) (by omega) (by omega) (by simp; omega), FJ a (by omega), f1 a (by omega)]
theorem sp_LL_drove {I : am_I} {L : am_L} {f : Nat → Int32} {P n C m : Nat} {c w : Int32} (hS : stS I 94 f n C m) (hwS : wfS Rs f P n C m) (hw : wfRs Rs) (hC : RCc I ρ Rs)
    (h : ∀ I' L', frA I I' → Q (some (.int (pDv Rs f P n m c w))) I' L' (gg Lx ρ)) : am_run (d + 12) m_LL_drove [.ref 12, .int c, .int w] I L (gg Lx ρ) Q := by
  have hNt := hNet_n hS hwS
  unfold pDv at h
  have main : ¬ c < 1 → ¬ 3 < c → 0 < P → ((¬ w < 0 ∧ ¬ c < w) ∨ w = 4) → am_run (d + 11) m_Orders_findRows [.ref 46, .ref 94, .int c] I L (gg Lx ρ) (fun r I' L' G' => am_W am_all (am_run (d + 11)) e_LL_drove Q 55 [.ref 12, .int c, .int w] (r.toList ++ ([] : List Value)) I' L' G' 0 0) := by
    intro z1 z2 z0 z3
    rw [if_pos ⟨z0, ⟨z1, z2⟩, z3⟩] at h
    obtain ⟨N, N1, N3, rfl⟩ := nI_btw (a := 1) (b := 3) rfl rfl (by decide) (by decide) z1 z2
    rw [nI_clamp (by omega)] at h
    obtain ⟨p1, p2⟩ := pDB_p (Rs := Rs) (f := f) (n := n) (m := m) N3
    refine sp_findRows (d := d) hS hwS hw hC N3 (fun I1 L1 f1 b1 => ?_)
    obtain ⟨b1, b2, b3, b4, b5⟩ := b1
    refine sy_LL_drove_55 (d := d + 10) _ _ (fun e => ?_) (fun e => ?_) (fun e => ?_)
    · have e : w = 0 := sw_i (by decide) e
      rw [if_pos e] at h; rw [b1]; exact h I1 L1 f1
    · have e : w = 4 := sw_i (by decide) e
      rw [if_neg (by rw [e]; decide), if_pos e] at h
      by_cases y : (pDB Rs f n m N).1 = 0
      · rw [if_pos y] at h; rw [b3 y]; exact h I1 L1 f1
      · rw [if_neg y] at h; rw [b2 y]; exact h I1 L1 f1
    · have e0 : ¬ w = 0 := fun q => e _ (List.mem_cons_self) (by rw [q]; decide)
      have e4 : ¬ w = 4 := fun q => e _ (List.mem_cons_of_mem _ List.mem_cons_self) (by rw [q]; decide)
      obtain ⟨k, k0, kN, rfl⟩ := nI_btw (a := 0) (b := N) rfl rfl (by decide) (by omega) (z3.resolve_right e4).1 (z3.resolve_right e4).2
      have hk1 : 1 ≤ k := Nat.pos_of_ne_zero fun q => e0 (by rw [q]; rfl)
      have es : nI k - 1 = nI (k - 1) := by rw [show (1 : Int32) = nI 1 from rfl, pk_sub hk1]
      rw [if_neg e0, if_neg e4, nI_clamp (by omega)] at h
      rw [es]
      unfold cFirst
      rw [b1]
      by_cases y : (pDB Rs f n m N).1 = 0
      · rw [if_pos y] at h
        rw [if_neg (fun q => by rw [y] at q; exact absurd q.1 (by decide))]
        exact h I1 L1 f1
      · rw [if_neg y] at h
        rw [if_pos ⟨nI_lt (a := 0) (by omega) (by omega), nI_pos (by omega), nI_lt (b := 3) (by omega) (by decide)⟩, nI_clamp (by omega)]
        have hz : (pDB Rs f n m N).2.1[k - 1]? = some (pDB Rs f n m N).2.1[k - 1] := List.getElem?_eq_getElem (by rw [p2 y]; omega)
        rw [List.getD_eq_getElem?_getD, hz] at h
        rw [b5 _ _ hz]; exact h I1 L1 f1
  refine run_in rfl rfl ⟨rfl, rfl⟩ (sy_LL_drove_0 (d := d + 10) _ _ (fun z => ?_) (fun _ z => ?_) (fun _ _ z => ?_) (fun z1 z2 z3 z => ?_) (fun z0 z1 z2 _ _ z => main z1 z2 (hNt.mp z0) (Or.inr z)) (fun z0 z1 z2 z3 _ _ z => main z1 z2 (hNt.mp z0) (Or.inl ⟨z3, z⟩)) (fun _ z1 z2 z3 z4 z5 z => ?_) (fun _ _ z2 _ z => ?_))
  · rw [if_neg (fun q => z (hNt.mpr q.1))] at h; exact h I L frA.rf
  · rw [if_neg (fun q => q.2.1.1 z)] at h; exact h I L frA.rf
  · rw [if_neg (fun q => q.2.1.2 z)] at h; exact h I L frA.rf
  · rw [if_neg (fun q => q.2.2.elim (fun y => y.1 z) (fun y => by rw [y] at z; exact absurd z (by decide)))] at h; exact h I L frA.rf
  · rw [if_neg (fun q => q.2.2.elim (fun y => y.2 z) z5)] at h; exact h I L frA.rf
  · rw [if_neg (fun q => q.2.2.elim (fun y => y.2 (Int32.lt_trans (by
      have h3 : ¬ 3 < c := z2
      rw [Int32.not_lt] at h3
      exact Int32.lt_of_le_of_lt h3 (show (3 : Int32) < 4 by decide)) z)) (fun y => by rw [y] at z; exact absurd z (by decide)))] at h; exact h I L frA.rf
theorem dvT_nd {f : Nat → Int32} {P n m : Nat} (hwf : wfN f n) (hL : wfL f P m) (hm : m ≤ 8) : ∀ ds : List Nat, dvT Rs n m f ds ≠ none → ds.Nodup := by
  refine snoc_ind (fun _ => List.nodup_nil) (fun ds l ih h => ?_)
  rw [dvT_sn] at h
  cases e0 : dvT Rs n m f ds with
  | none => rw [e0] at h; exact absurd rfl h
  | some s0 =>
    rw [e0] at h
    have hp := dvT_p (Rs := Rs) hwf hL hm ds s0 e0
    have h : (if l < m ∧ pWa s0.2 l ∧ s0.1.testBit l = false ∧ pD Rs s0.2 n (s0.2 (104 + 4 * l)) (lG s0.2 l) (lP s0.2 l) < 1000000 then some (s0.1 ||| 2 ^ l, pG Rs s0.2 n (s0.2 (104 + 4 * l)) (lG s0.2 l) (lP s0.2 l)) else none) ≠ none := h
    split at h
    · next z =>
      rw [List.nodup_append]
      refine ⟨ih (by rw [e0]; simp), by simp, fun a ha b hb => ?_⟩
      rw [List.mem_singleton.mp hb]
      intro q
      subst q
      have := (hp.2.2.2.2.1 a).mpr ha
      rw [z.2.2.1] at this
      exact absurd this (by decide)
    · exact absurd rfl h
theorem dvT_ok {f : Nat → Int32} {P n m : Nat} (hwf : wfN f n) (hL : wfL f P m) (hm : m ≤ 8) {ds : List Nat} (h : ¬ (ds.Nodup ∧ ∀ l ∈ ds, l < m ∧ pWa f l)) : dvT Rs n m f ds = none := by
  cases e : dvT Rs n m f ds with
  | none => rfl
  | some st => exact absurd ⟨dvT_nd (Rs := Rs) hwf hL hm ds (by rw [e]; simp), (dvT_p (Rs := Rs) hwf hL hm ds st e).2.2.2.1⟩ h
theorem dvT_app {f : Nat → Int32} {n m : Nat} {pre : List Nat} (h : dvT Rs n m f pre = none) : ∀ suf : List Nat, dvT Rs n m f (pre ++ suf) = none := by
  refine snoc_ind (by rw [List.append_nil]; exact h) (fun ds l ih => ?_)
  rw [← List.append_assoc, dvT_sn, ih]; rfl
theorem lp_isF {I : am_I} {L : am_L} {f : Nat → Int32} {n : Nat} (h198 : I 198 = f) (hn1 : f 1 = nI n) (hn : n ≤ 16) (hs : ∀ r, r < n → f (136 + r) = -1 ∨ ¬ f (136 + r) < 0) (h : Q (some (.int (bI (dvA f n = true)))) I L (gg Lx ρ)) : ∀ q i, i + q = n → dvA f i = true → am_W am_all (am_run (d + 1)) e_Model_isFound Q 2 [.ref 186, .int (nI i)] [] I L (gg Lx ρ) 0 0
  | 0, i, e, hi => by
    have e : i = n := e
    subst e
    have hno : ¬ nI i < I 198 1 := by rw [h198, hn1]; exact nI_nlt (Nat.le_refl _) (by omega)
    rw [bI_t hi] at h
    exact sy_Model_isFound_2 _ (fun _ => h) (fun z => absurd z hno) (fun z => absurd z hno) (fun z => absurd z hno) (fun z => absurd z hno) (fun z => absurd z hno)
  | q + 1, i, e, hi => by
    have hl : i < n := by omega
    have hyes : nI i < I 198 1 := by rw [h198, hn1]; exact nI_lt hl (by omega)
    have k136 : (136 + nI i : Int32) = nI (136 + i) := by rw [show (136 : Int32) = nI 136 from rfl, nI_add]
    have e1 : I 198 (136 + nI i : Int32).toNatClampNeg = f (136 + i) := by rw [k136, nI_clamp (by omega), h198]
    have e2 : mR I (nI i) 3 = f (7 + 5 * i + 3) := (mR_n (c := 3) (by omega)).trans (by rw [h198])
    refine sy_Model_isFound_2 _ (fun z => absurd hyes z) (fun _ => by rw [k136]; exact vp_in_nI (by omega) (by decide)) (fun _ z => ?_) (fun _ _ => oR_n (c := 3) (by omega)) (fun _ z z2 => ?_) (fun _ z z2 => ?_)
    · rw [nI_1]
      rw [e1] at z
      exact lp_isF h198 hn1 hn hs h q (i + 1) (by omega) (by unfold dvA; rw [hi, decide_eq_true ((hs i hl).resolve_right (fun y => y z))]; rfl)
    · rw [nI_1]
      rw [e1, e2] at z2
      exact lp_isF h198 hn1 hn hs h q (i + 1) (by omega) (by unfold dvA; rw [hi, decide_eq_true z2, Bool.or_true]; rfl)
    · rw [e1] at z
      rw [e1, e2] at z2
      have zz : ¬ f (136 + i) = -1 := fun q => z (by rw [q]; decide)
      have : ∀ j, i + 1 ≤ j → j ≤ n → dvA f j = false := by
        intro j h1
        induction j with
        | zero => omega
        | succ j ih =>
          intro h2
          unfold dvA
          by_cases y : j = i
          · subst y; rw [decide_eq_false zz, decide_eq_false z2]; simp
          · rw [ih (by omega) (by omega), Bool.false_and]
      rw [bI_f (by rw [this n (by omega) (Nat.le_refl _)]; decide)] at h
      exact h
/-- the loads of a row go, and what was found is so -/
theorem lp_isDg {I : am_I} {f : Nat → Int32} {P n m N : Nat} {ds : List Nat} {x2 x3 x4 : Int32} (hn1 : f 1 = nI n) (hn : n ≤ 16) (hwf : wfN f n) (hL : wfL f P m) (hP10 : P ≤ 10) (hfo : foR Rs (f 6)) (hs : ∀ r, r < n → f (136 + r) = -1 ∨ ¬ f (136 + r) < 0) (hm : m ≤ 8) (hw : wfRs Rs) (hM : RCm I Rs) (h201 : ∀ k, k < 152 → I 201 k = f k) (hN : N ≤ 3) (hlen : ds.length = N) (hnd : ds.Nodup) (hds : ∀ l ∈ ds, l < m ∧ pWa f l) (h209 : ∀ j l, ds[j]? = some l → I 209 j = nI l)
    (h : ∀ I' L', frm [198, 199, 200] [24, 29] I I' → I' 198 = f → Q (some (.int (bI (dvV n (dvT Rs n m f ds) = true)))) I' L' (gg Lx ρ)) : ∀ suf pre (I' : am_I) (L' : am_L) (fl : Bool) (g : Nat → Int32), ds = pre ++ suf → frm [198, 199, 200] [24, 29] I I' → I' 198 = g → tal f g → (fl = true → ∃ x, dvT Rs n m f pre = some (x, g)) → (fl = false → dvT Rs n m f ds = none) →
    am_W am_all (am_run (d + 8)) e_Model_isDriven Q 102 [.ref 186, .int (nI N), .int x2, .int x3, .int x4, .int (bI (fl = true)), .int (nI pre.length)] [] I' L' (gg Lx ρ) 0 0
  | suf, pre, I', L', false, g, e, hf, e198, htg, _, hno => by
    have hz : bI (false = true) = 0 := rfl
    have hnone := hno rfl
    have fin : ∀ (x6 : Int32), am_run (d + 8) m_Model_putsBack [.ref 186] I' L' (gg Lx ρ) (fun r I' L' G' => am_W am_all (am_run (d + 8)) e_Model_isDriven Q 192 [.ref 186, .int (nI N), .int x2, .int x3, .int x4, .int 0, .int x6] (r.toList ++ ([] : List Value)) I' L' G' 0 0) := fun x6 =>
      sp_Model_putsBack (d := d + 7) (f := f) (fun k hk => by rw [hf.1 201 (by decide) (by simp)]; exact h201 k hk) (fun k hk => by rw [e198]; exact tal_i htg (by omega)) (fun I2 f2 e2 => sy_Model_isDriven_192 (d := d + 5) _ _ _ _ _ _ (by
        have := h I2 L' (hf.tr (f2.w (by simp) (by simp))) e2
        rw [hnone] at this; exact this) (Or.inl rfl))
    exact sy_Model_isDriven_102 (d := d + 5) _ _ _ _ _ _ (fun _ _ => fin _) (fun _ z => absurd hz z) (fun _ _ => fin _) (fun _ z => absurd hz z) (fun _ z => absurd hz z) (fun _ z => absurd hz z) (fun _ z => absurd hz z) (fun _ z => absurd hz z)
  | [], pre, I', L', true, g, e, hf, e198, htg, hyes, _ => by
    obtain ⟨x, hx⟩ := hyes rfl
    have e : ds = pre := e.trans (List.append_nil pre)
    rw [← e] at hx ⊢
    have hz : ¬ bI (true = true) = 0 := by decide
    have hnl : ¬ nI ds.length < nI N := by rw [hlen]; exact nI_nlt (Nat.le_refl _) (by omega)
    have ev : dvV n (dvT Rs n m f ds) = dvA g n := by rw [hx]; rfl
    rw [ev] at h
    have fin : ∀ (v x6 : Int32), v = bI (dvA g n = true) → (v = 0 ∨ v = 1) → am_run (d + 8) m_Model_putsBack [.ref 186] I' L' (gg Lx ρ) (fun r I' L' G' => am_W am_all (am_run (d + 8)) e_Model_isDriven Q 192 [.ref 186, .int (nI N), .int x2, .int x3, .int x4, .int v, .int x6] (r.toList ++ ([] : List Value)) I' L' G' 0 0) := fun v x6 ev hv =>
      sp_Model_putsBack (d := d + 7) (f := f) (fun k hk => by rw [hf.1 201 (by decide) (by simp)]; exact h201 k hk) (fun k hk => by rw [e198]; exact tal_i htg (by omega)) (fun I2 f2 e2 => sy_Model_isDriven_192 (d := d + 5) _ _ _ _ _ _ (by
        have := h I2 L' (hf.tr (f2.w (by simp) (by simp))) e2
        rw [ev]; exact this) hv)
    refine sy_Model_isDriven_102 (d := d + 5) _ _ _ _ _ _ (fun _ z => absurd z hz) (fun _ _ => ?_) (fun z => absurd z hnl) (fun z => absurd z hnl) (fun z => absurd z hnl) (fun z => absurd z hnl) (fun z => absurd z hnl) (fun z => absurd z hnl)
    refine run_in (d := d + 7) rfl rfl ⟨rfl, rfl⟩ (sy_Model_isFound_0 (d := d + 6) (lp_isF (d := d + 6) e198 (by rw [htg 1 (by omega)]; exact hn1) hn (fun r hr => by rw [tal_i htg (by omega)]; exact hs r hr) ?_ n 0 (by omega) rfl))
    refine sy_Model_isDriven_178 (d := d + 5) _ _ _ _ _ _ _ (fun z => fin 0 _ z.symm (Or.inl rfl)) (fun z => fin 1 _ (by rw [bI_t (bI1 z)]) (Or.inr rfl))
  | l :: suf, pre, I', L', true, g, e, hf, e198, htg, hyes, _ => by
    obtain ⟨x, hx⟩ := hyes rfl
    obtain ⟨ht0, wf1, hx8, hpre, hbit, hbts⟩ := dvT_p (Rs := Rs) hwf hL hm pre (x, g) hx
    have ht : tal f g := ht0
    have hz : ¬ bI (true = true) = 0 := by decide
    have hpl : pre.length < N := by rw [← hlen, e]; simp
    obtain ⟨w1, w2⟩ := hds l (by rw [e]; simp)
    obtain ⟨g1, g2, g3, g4, g5, g6, g7, g8⟩ := hL l w1
    have hlp := g4.resolve_left w2.1
    have hlt : nI pre.length < nI N := nI_lt hpl (by omega)
    have hnp : l ∉ pre := by
      rw [e, List.nodup_append] at hnd
      exact fun q => hnd.2.2 l q l (by simp) rfl
    have htb : x.testBit l = false := by
      cases y : x.testBit l with
      | false => rfl
      | true => exact absurd ((hbit l).mp y) hnp
    have hwp : pWa g l := by
      unfold pWa at w2 ⊢
      rw [tal_i ht (by omega), tal_i ht (by omega)]; exact w2
    have e9 : I' 209 (nI pre.length).toNatClampNeg = nI l := by
      rw [nI_clamp (by omega), hf.1 209 (by decide) (by simp)]
      exact h209 _ _ (by rw [e, List.getElem?_append_right (Nat.le_refl _), Nat.sub_self]; rfl)
    refine sy_Model_isDriven_102 (d := d + 5) _ _ _ _ _ _ (fun z => absurd hlt z) (fun z => absurd hlt z) (fun _ z => absurd z hz) (fun _ _ => vp_in_nI (by omega) (by decide)) (fun _ _ => by rw [e9]; exact oL_n (c := 0) (by omega)) (fun _ _ => by rw [e9]; exact oL_n (c := 1) (by omega)) (fun _ _ => by rw [e9]; exact oL_n (c := 2) (by omega)) (fun _ _ => ?_)
    rw [e9]
    have v0 : mL I' (nI l) 0 = g (104 + 4 * l) := by rw [show mL I' (nI l) 0 = I' 198 (104 + 4 * l) from mL_n (c := 0) (by omega), e198]
    have v1 : mL I' (nI l) 1 = nI (lP g l) := by rw [show mL I' (nI l) 1 = I' 198 (104 + 4 * l + 1) from mL_n (c := 1) (by omega), e198, tal_i ht (by omega), tal_lP ht]; exact hlp.1
    have v2 : mL I' (nI l) 2 = nI (lG g l) := by rw [show mL I' (nI l) 2 = I' 198 (104 + 4 * l + 2) from mL_n (c := 2) (by omega), e198, tal_i ht (by omega), tal_lG ht]; exact g5
    rw [v0, v1, v2]
    have hk : g (104 + 4 * l) = nI (lK f l) := by rw [tal_i ht (by omega)]; exact g1
    have elen : (pre ++ [l]).length = pre.length + 1 := by simp
    have hgo := sp_Model_goes (d := d) (Rs := Rs) (Lx := Lx) (ρ := ρ) (I := I') (L := L') (n := n) (t := lG g l) (p := lP g l) (kk := lK f l) (k := g (104 + 4 * l))
      (Q := fun r I' L' G' => am_W am_all (am_run (d + 8)) e_Model_isDriven Q 153 [.ref 186, .int (nI N), .int x2, .int x3, .int x4, .int (bI (true = true)), .int (nI pre.length)] (r.toList ++ ([] : List Value)) I' L' G' 0 0)
      (by rw [e198, ht 1 (by omega)]; exact hn1) (by rw [e198]; exact wf1) hk g2 g3 (by rw [e198, ht 6 (by omega)]; exact hfo) hw (hf.M (by simp) (by simp) hM) (by rw [tal_lG ht]; omega) (by rw [tal_lP ht]; exact hlp.2)
    rw [e198] at hgo
    refine hgo (fun hgo I2 L2 f2 l2 e2 => ?_) (fun hgo I2 L2 f2 l2 => ?_)
    · refine sy_Model_isDriven_153 (d := d + 5) _ _ _ _ _ _ _ (fun z => absurd z (nI_pos (by omega))) (fun _ => ?_)
      rw [nI_1]
      have := lp_isDg (x2 := x2) (x3 := x3) (x4 := x4) hn1 hn hwf hL hP10 hfo hs hm hw hM h201 hN hlen hnd hds h209 h suf (pre ++ [l]) I2 L2 true _ (by rw [e]; simp) (hf.tr (f2.w (by simp) (by simp))) e2 (ht.tr (tal_pG hwf.1)) (fun _ => ⟨x ||| 2 ^ l, by
        rw [dvT_sn, hx]
        show (if _ then _ else _) = _
        rw [if_pos ⟨w1, hwp, htb, hgo⟩]⟩) (fun z => absurd z (by decide))
      rw [elen] at this
      exact this
    · refine sy_Model_isDriven_153 (d := d + 5) _ _ _ _ _ _ _ (fun _ => ?_) (fun z => absurd (by decide) z)
      rw [nI_1]
      have := lp_isDg (x2 := x2) (x3 := x3) (x4 := x4) hn1 hn hwf hL hP10 hfo hs hm hw hM h201 hN hlen hnd hds h209 h suf (pre ++ [l]) I2 L2 false g (by rw [e]; simp) (hf.tr (f2.w (by simp) (by simp))) (by rw [f2.1 198 (by decide) (by simp)]; exact e198) ht (fun z => absurd z (by decide)) (fun _ => ?_)
      · rw [elen] at this
        exact this
      · rw [e, show pre ++ l :: suf = (pre ++ [l]) ++ suf by simp]
        refine dvT_app ?_ suf
        rw [dvT_sn, hx]
        show (if _ then _ else _) = _
        rw [if_neg (fun q => hgo q.2.2.2)]
theorem lp_isDp {I : am_I} {f : Nat → Int32} {P n m N : Nat} {ds : List Nat} {x2 : Int32} (h198 : I 198 = f) (hn1 : f 1 = nI n) (hm1 : f 3 = nI m) (hn : n ≤ 16) (hwf : wfN f n) (hL : wfL f P m) (hP10 : P ≤ 10) (hfo : foR Rs (f 6)) (hs : ∀ r, r < n → f (136 + r) = -1 ∨ ¬ f (136 + r) < 0) (hm : m ≤ 8) (hw : wfRs Rs) (hM : RCm I Rs) (h201 : ∀ k, k < 152 → I 201 k = f k) (hN : N ≤ 3) (hlen : ds.length = N) (h8 : ∀ l ∈ ds, l < 8)
    (h : ∀ I' L', frm [198, 199, 200, 209] [24, 29] I I' → I' 198 = f → (dvV n (dvT Rs n m f ds) = true → ∀ j l, ds[j]? = some l → I' 209 j = nI l) → Q (some (.int (bI (dvV n (dvT Rs n m f ds) = true)))) I' L' (gg Lx ρ)) : ∀ pre suf (I' : am_I) (L : am_L) (y : Nat) (x6 : Value), ds = pre ++ suf → frm [209] [] I I' → (∀ j l, suf[j]? = some l → I' 209 (pre.length + j) = nI l) → y < 256 → (∀ l, y.testBit l = true ↔ l ∈ suf) → suf.Nodup → (∀ l ∈ suf, l < m ∧ pWa f l) → am_W am_all (am_run (d + 8)) e_Model_isDriven Q 10 [.ref 186, .int (nI N), .int x2, .int (nI (dgV 8 pre)), .int (nI y), .int (nI pre.length - 1), x6] [] I' L (gg Lx ρ) 0 0 := by
  refine snoc_ind (fun suf I' L y x6 e hf hv hy hb hnd hok => ?_) (fun pre l ih suf I' L y x6 e hf hv hy hb hnd hok => ?_)
  · have hneg : nI ([] : List Nat).length - 1 < 0 := by decide
    have e : ds = suf := e
    subst e
    have hv : ∀ j l, ds[j]? = some l → I' 209 j = nI l := fun j l z => by have := hv j l z; rwa [show ([] : List Nat).length + j = j from Nat.zero_add j] at this
    refine sy_Model_isDriven_10 (d := d + 5) _ _ _ _ _ _ (fun _ => ?_) (fun z => absurd hneg z) (fun z => absurd hneg z) (fun z => absurd hneg z) (fun z => absurd hneg z) (fun z => absurd hneg z) (fun z => absurd hneg z) (fun z => absurd hneg z)
    exact lp_isDg (I := I') hn1 hn hwf hL hP10 hfo hs hm hw (hf.M (by simp) (by simp) hM) (fun k hk => by rw [hf.1 201 (by decide) (by simp)]; exact h201 k hk) hN hlen hnd hok hv (fun I2 L2 f2 e2 => h I2 L2 ((hf.w (by simp) (by simp)).tr (f2.w (by simp) (by simp))) e2 (fun _ j l z => by rw [f2.1 209 (by decide) (by simp)]; exact hv j l z)) ds [] I' L true f rfl frm.rf ((hf.1 198 (by decide) (by simp)).trans h198) tal.rf (fun _ => ⟨0, rfl⟩) (fun z => absurd z (by decide))
  · have hl8 : l < 8 := h8 l (by rw [e]; simp)
    have hpre : ∀ j ∈ pre, j < 8 := fun j hj => h8 j (by rw [e]; simp [hj])
    have hl3 : pre.length < 3 := by rw [e] at hlen; simp at hlen; omega
    have hlt := dgV_lt (s := 8) (pre ++ [l]) (fun j hj => by
      rcases List.mem_append.mp hj with z | z
      · exact hpre j z
      · rw [List.mem_singleton.mp z]; exact hl8)
    have hpw : 8 ^ (pre ++ [l]).length ≤ 8 ^ 3 := Nat.pow_le_pow_right (by decide) (by simp; omega)
    have h512 : 8 ^ 3 = 512 := by decide
    have e1 : nI (pre ++ [l]).length - 1 = nI pre.length := by rw [List.length_append]; exact nI_pred _
    rw [e1]
    have hv1 : dgV 8 (pre ++ [l]) / 8 = dgV 8 pre := by rw [dgV_sn, Nat.mul_comm, Nat.mul_add_div (by decide), Nat.div_eq_of_lt hl8, Nat.add_zero]
    have m1 : nI (dgV 8 (pre ++ [l])) / 8 = nI (dgV 8 pre) := by rw [show (8 : Int32) = nI 8 from rfl, nI_div (by omega) (by decide) (by decide), hv1]
    have m2 : nI (dgV 8 (pre ++ [l])) - nI (dgV 8 pre) * 8 = nI l := by
      rw [show (8 : Int32) = nI 8 from rfl, pk_mul, pk_sub (by rw [dgV_sn]; omega), dgV_sn, Nat.add_sub_cancel_left]
    have e198 : I' 198 = f := (hf.1 198 (by decide) (by simp)).trans h198
    have ec : (nI pre.length).toNatClampNeg = pre.length := nI_clamp (by omega)
    have e198' : am_u I' 209 pre.length (nI l) 198 = f := by rw [am_u_ne (by decide)]; exact e198
    have hlo : mLo (am_u I' 209 pre.length (nI l)) (nI l) ↔ l < m := by
      unfold mLo
      rw [e198', hm1]
      exact ⟨fun z => Classical.byContradiction fun q => absurd z.2 (nI_nlt (by omega) (by omega)), fun z => ⟨nI_pos (by omega), nI_lt z (by omega)⟩⟩
    have hof : mOf (nI y) (nI l) ↔ l ∈ suf := by
      rw [← hb l]; exact rb_of y (by omega) l (by omega)
    have fail : (¬ l < m ∨ l ∈ suf ∨ (l < m ∧ ¬ pWa f l)) → Q (some (.int 0)) (am_u I' 209 pre.length (nI l)) L (gg Lx ρ) := by
      intro z
      have hnone : dvT Rs n m f ds = none := dvT_ok hwf hL hm (fun q => by
        have hlm := q.2 l (by rw [e]; simp)
        rcases z with z | z | z
        · exact z hlm.1
        · rw [e, List.nodup_append] at q
          exact q.1.2.2 l (by simp) l z rfl
        · exact z.2 hlm.2)
      have := h (am_u I' 209 pre.length (nI l)) L ((hf.u (by simp) (by decide)).w (by simp) (by simp)) e198'
      rw [hnone] at this
      exact this (fun q => absurd (show false = true from q) (by decide))
    refine sy_Model_isDriven_10 (d := d + 5) _ _ _ _ _ _ (fun z => absurd z (nI_pos (by omega))) (fun _ => vp_in_nI (by omega) (by decide)) (fun _ z => ?_) (fun _ z z2 => ?_) (fun _ _ _ => ?_) (fun _ _ _ => ?_) (fun _ z z2 z3 => ?_) (fun _ z z2 z3 => ?_)
    · rw [m1, m2, ec] at z ⊢
      rw [am_u_at, hlo] at z
      exact fail (Or.inl z)
    · rw [m1, m2, ec] at z z2 ⊢
      rw [am_u_at, hof] at z2
      exact fail (Or.inr (Or.inl z2))
    · rw [m1, m2, ec, am_u_at]; exact oL_n (c := 1) (by omega)
    · rw [m1, m2, ec, am_u_at]; exact oL_n (c := 2) (by omega)
    · rw [m1, m2, ec] at z z2 z3 ⊢
      rw [am_u_at] at z z2 z3 ⊢
      have hlm := hlo.mp z
      have hns := fun q => z2 (hof.mpr q)
      have hpw : pWa f l := by
        have := (mWa_n (I := am_u I' 209 pre.length (nI l)) hlm hm (by rw [e198']; exact hL)).mp z3
        rwa [e198'] at this
      rw [(rb_or y (by omega) l (by omega)).1, show nI pre.length + (-1) = nI pre.length - 1 from (Int32.sub_eq_add_neg _ _).symm]
      refine ih (l :: suf) _ L _ _ (by rw [e]; simp) (hf.u (by simp) (by decide)) (fun j x hx => ?_) (Nat.or_lt_two_pow (n := 8) hy (show 2 ^ l < 2 ^ 8 from Nat.pow_lt_pow_right (by decide) (by omega))) (fun x => ?_) (List.nodup_cons.mpr ⟨hns, hnd⟩) (fun x hx => ?_)
      · cases j with
        | zero => rw [Nat.add_zero, am_u_at, ← Option.some.inj hx]
        | succ j =>
          rw [am_u_nk (by omega)]
          have := hv j x hx
          rw [List.length_append] at this
          rw [show pre.length + (j + 1) = pre.length + [l].length + j by simp; omega]; exact this
      · rw [Nat.testBit_or, Nat.testBit_two_pow, Bool.or_eq_true, hb x, decide_eq_true_iff, List.mem_cons]
        exact ⟨fun q => q.elim Or.inr (fun q => Or.inl q.symm), fun q => q.elim (fun q => Or.inr q.symm) Or.inl⟩
      · rcases List.mem_cons.mp hx with q | q
        · rw [q]; exact ⟨hlm, hpw⟩
        · exact hok x q
    · rw [m1, m2, ec] at z z2 z3 ⊢
      rw [am_u_at] at z z2 z3
      have hlm := hlo.mp z
      exact fail (Or.inr (Or.inr ⟨hlm, fun q => z3 ((mWa_n (I := am_u I' 209 pre.length (nI l)) hlm hm (by rw [e198']; exact hL)).mpr (by rw [e198']; exact q))⟩))
end DVM
