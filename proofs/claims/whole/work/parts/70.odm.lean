/-! ===== orders of the reference ===== -/
/-- the number that digits spell -/
def dgV (s : Nat) (ds : List Nat) : Nat := ds.foldl (fun a i => a * s + i) 0
theorem dgV_sn {s : Nat} (ds : List Nat) (i : Nat) : dgV s (ds ++ [i]) = dgV s ds * s + i := by unfold dgV; rw [List.foldl_append]; rfl
def bts (ds : List Nat) : Nat := ds.foldl (fun x i => x ||| 2 ^ i) 0
theorem bts_sn (ds : List Nat) (i : Nat) : bts (ds ++ [i]) = bts ds ||| 2 ^ i := by unfold bts; rw [List.foldl_append]; rfl
/-- induction from the end of a list -/
theorem snoc_ind {P : List Nat → Prop} (h0 : P []) (h1 : ∀ ds i, P ds → P (ds ++ [i])) (ds : List Nat) : P ds := by
  have key : ∀ rs : List Nat, P rs.reverse := by
    intro rs
    induction rs with
    | nil => exact h0
    | cons i rs ih => rw [List.reverse_cons]; exact h1 _ _ ih
  have := key ds.reverse
  rwa [List.reverse_reverse] at this
theorem dgV_lt {s : Nat} : ∀ (ds : List Nat), (∀ i ∈ ds, i < s) → dgV s ds < s ^ ds.length := by
  refine snoc_ind (fun _ => by show 0 < s ^ 0; rw [Nat.pow_zero]; decide) (fun ds i ih h => ?_)
  have h1 := ih fun j hj => h j (List.mem_append_left _ hj)
  have h2 : i < s := h i (by simp)
  rw [dgV_sn, List.length_append]
  show dgV s ds * s + i < s ^ (ds.length + 1)
  rw [Nat.pow_succ]
  have : (dgV s ds + 1) * s ≤ s ^ ds.length * s := Nat.mul_le_mul_right _ h1
  rw [Nat.add_mul] at this
  omega
theorem bts_lt {s : Nat} : ∀ (ds : List Nat), (∀ i ∈ ds, i < s) → bts ds < 2 ^ s := by
  refine snoc_ind (fun _ => Nat.two_pow_pos s) (fun ds i ih h => ?_)
  rw [bts_sn]
  exact Nat.or_lt_two_pow (ih fun j hj => h j (List.mem_append_left _ hj)) (Nat.pow_lt_pow_right (by decide) (h i (by simp)))
theorem nI_div {a b : Nat} (ha : a < 2 ^ 31) (hb : 0 < b) (hb2 : b < 2 ^ 31) : nI a / nI b = nI (a / b) := pk_div ha hb hb2
theorem od_sh : ∀ s, s < 7 → (1 : Int32) <<< (nI s &&& 31) - 1 = nI (2 ^ s - 1) := by decide
section ODM
variable {d Lx : Nat} {ρ : List (Nat × Nat)} {Q : am_Q} {Rs : List (List (Nat × List Nat))}
theorem odT_b {n : Nat} {W : Nat → Nat} {f : Nat → Int32} : ∀ ds : List Nat, (odT Rs n W f ds).1 = bts ds :=
  snoc_ind rfl (fun ds i ih => by rw [odT_sn, odS_1, ih, bts_sn])
theorem lp_isRow {I : am_I} {L : am_L} {K : am_C} {s : Nat} {x1 : Int32} {all : List Nat} (hs : s < 7) (hs0 : 0 < s) (h40 : I 186 40 = nI s) (hall : ∀ i ∈ all, i < s) (hlen : all.length ≤ 6)
    (h : ∀ I', frm [207] [] I I' → (∀ j i, all[j]? = some i → I' 207 j = nI i) → Q (some (.int (bI (bts all = 2 ^ s - 1)))) I' L (gg Lx ρ)) : ∀ pre suf I' y, all = pre ++ suf → frm [207] [] I I' → (∀ j i, suf[j]? = some i → I' 207 (pre.length + j) = nI i) → y < 64 → bts all = bts pre ||| y → am_W am_all K e_Model_isRow Q 12 [.ref 186, .int x1, .int (nI (dgV s pre)), .int (nI y), .int (nI pre.length - 1)] [] I' L (gg Lx ρ) 0 0 := by
  refine snoc_ind (fun suf I' y e hf hv hy hb => ?_) (fun pre i ih suf I' y e hf hv hy hb => ?_)
  · have hneg : nI ([] : List Nat).length - 1 < 0 := by decide
    have e : all = suf := e
    subst e
    have hb : bts all = y := hb.trans (Nat.zero_or y)
    have h4 : I' 186 40 = nI s := (hf.2 40 (by simp)).trans h40
    have := h I' hf (fun j i z => by have := hv j i z; rwa [show ([] : List Nat).length + j = j from Nat.zero_add j] at this)
    have hp := od_pw s hs
    have hq := Nat.two_pow_pos s
    refine sz_Model_isRow_12 _ _ _ _ (fun _ z => ?_) (fun _ z => ?_) (fun z => absurd hneg z) (fun z => absurd hneg z) (fun z => absurd hneg z)
    · rw [h4, od_sh s hs] at z
      rw [bI_f (fun q => z (by rw [← hb, q]))] at this; exact this
    · rw [h4, od_sh s hs] at z
      rw [bI_t (hb.trans ((nI_eq (by omega) (by omega)).mp z))] at this; exact this
  · have hi : i < s := hall i (by rw [e]; simp)
    have hpre : ∀ j ∈ pre, j < s := fun j hj => hall j (by rw [e]; simp [hj])
    have hl6 : pre.length < 6 := by rw [e] at hlen; simp at hlen; omega
    have hlt := dgV_lt (s := s) (pre ++ [i]) (fun j hj => by
      rcases List.mem_append.mp hj with z | z
      · exact hpre j z
      · rw [List.mem_singleton.mp z]; exact hi)
    have hpw : s ^ (pre ++ [i]).length ≤ 6 ^ 6 := Nat.le_trans (Nat.pow_le_pow_left (by omega) _) (Nat.pow_le_pow_right (by decide) (by simp; omega))
    have h66 : 6 ^ 6 = 46656 := by decide
    have e1 : nI (pre ++ [i]).length - 1 = nI pre.length := by rw [List.length_append]; exact nI_pred _
    have h4 : I' 186 40 = nI s := (hf.2 40 (by simp)).trans h40
    rw [e1]
    have hv1 : dgV s (pre ++ [i]) / s = dgV s pre := by rw [dgV_sn, Nat.mul_comm, Nat.mul_add_div hs0, Nat.div_eq_of_lt hi, Nat.add_zero]
    have hv2 : dgV s (pre ++ [i]) % s = i := by rw [dgV_sn, Nat.mul_comm, Nat.mul_add_mod, Nat.mod_eq_of_lt hi]
    have m1 : nI (dgV s (pre ++ [i])) / nI s = nI (dgV s pre) := by rw [nI_div (by omega) hs0 (by omega), hv1]
    have m2 : nI (dgV s (pre ++ [i])) - nI (dgV s pre) * nI s = nI i := by
      rw [pk_mul, pk_sub (by rw [dgV_sn]; omega), dgV_sn, Nat.add_sub_cancel_left]
    refine sz_Model_isRow_12 _ _ _ _ (fun z => absurd z (nI_pos (by omega))) (fun z => absurd z (nI_pos (by omega))) (fun _ => by rw [h4]; exact nI_ne0 hs0 (by omega)) (fun _ => vp_in_nI (by omega) (by decide)) (fun _ => ?_)
    rw [am_u_at, h4, m1, m2, nI_clamp (by omega), (rb_or y (by omega) i (by omega)).1, show nI pre.length + (-1) = nI pre.length - 1 from (Int32.sub_eq_add_neg _ _).symm]
    refine ih (i :: suf) _ _ (by rw [e]; simp) (hf.u (by simp) (by decide)) (fun j x hx => ?_) (Nat.or_lt_two_pow (n := 6) hy (show 2 ^ i < 2 ^ 6 from Nat.pow_lt_pow_right (by decide) (by omega))) ?_
    · cases j with
      | zero => rw [Nat.add_zero, am_u_at, ← Option.some.inj hx]
      | succ j =>
        rw [am_u_nk (by omega)]
        have := hv j x hx
        rw [List.length_append] at this
        rw [show pre.length + (j + 1) = pre.length + [i].length + j by simp; omega]; exact this
    · rw [hb, bts_sn, Nat.or_assoc, Nat.or_comm (2 ^ i) y]
theorem sp_isRow {I : am_I} {L : am_L} {s : Nat} {ds : List Nat} (hs : s < 7) (hs0 : 0 < s) (h40 : I 186 40 = nI s) (hd : ∀ i ∈ ds, i < s) (hlen : ds.length = s)
    (h : ∀ I', frm [207] [] I I' → (∀ j i, ds[j]? = some i → I' 207 j = nI i) → Q (some (.int (bI (bts ds = 2 ^ s - 1)))) I' L (gg Lx ρ)) : am_run (d + 1) m_Model_isRow [.ref 186, .int (nI (dgV s ds))] I L (gg Lx ρ) Q := by
  subst hlen
  refine run_in rfl rfl ⟨rfl, rfl⟩ (sz_Model_isRow_0 _ ?_)
  rw [h40]
  exact lp_isRow hs hs0 h40 hd (by omega) h ds [] I 0 (by simp) frm.rf (fun j i z => absurd z (by simp)) (by decide) (Nat.or_zero _).symm
/-- what the reference has before its rows are tried -/
def moI (I : am_I) (f : Nat → Int32) (ws : List Nat) : Prop := I 186 40 = nI ws.length ∧ (∀ i l, ws[i]? = some l → I 206 i = nI l) ∧ ∀ k, k < 152 → I 201 k = f k
def moB (I : am_I) (ws : List Nat) (b : Nat × Nat × List Nat) : Prop := I 186 41 = nI (b.1 - 1) ∧ b.1 ≤ 1000 ∧ I 186 42 = nI b.2.1 ∧ ∀ j i, b.2.2[j]? = some i → I 208 j = nI (wAt ws i)
theorem moI_fr {I I' : am_I} {f : Nat → Int32} {ws : List Nat} (h : frm [198, 199, 200, 207, 208] [24, 29, 41, 42] I I') (hI : moI I f ws) : moI I' f ws :=
  ⟨(h.2 40 (by simp)).trans hI.1, fun i l z => by rw [h.1 206 (by decide) (by simp)]; exact hI.2.1 i l z, fun k hk => by rw [h.1 201 (by decide) (by simp)]; exact hI.2.2 k hk⟩
/-- the loads of a row go -/
theorem lp_moG {I : am_I} {f : Nat → Int32} {P n m : Nat} {ws ds : List Nat} {x1 x2 x3 : Int32} (hn1 : f 1 = nI n) (hwf : wfN f n) (hL : wfL f P m) (hP10 : P ≤ 10) (hfo : foR Rs (f 6)) (hm : m ≤ 8) (hw : wfRs Rs) (hM : RCm I Rs) (hs : ws.length ≤ 6) (hws : ∀ l ∈ ws, l < m ∧ pWa f l) (hI : moI I f ws) (hd : ∀ i ∈ ds, i < ws.length) (hlen : ds.length = ws.length) (h207 : ∀ j i, ds[j]? = some i → I 207 j = nI i)
    (h : ∀ I' L' (x6 : Int32) (x7 : Value), frm [198, 199, 200] [24, 29] I I' → I' 198 = f → am_W am_all (am_run (d + 8)) e_Model_orders Q 217 [.ref 186, .int x1, .int x2, .int x3, .int (nI (odT Rs n (wAt ws) f ds).2.2.1), .int (nI (odT Rs n (wAt ws) f ds).2.2.2), .int x6, x7] [] I' L' (gg Lx ρ) 0 0) : ∀ suf pre (I' : am_I) (L' : am_L) (x7 : Value), ds = pre ++ suf → frm [198, 199, 200] [24, 29] I I' → I' 198 = (odT Rs n (wAt ws) f pre).2.1 →
    am_W am_all (am_run (d + 8)) e_Model_orders Q 138 [.ref 186, .int x1, .int x2, .int x3, .int (nI (odT Rs n (wAt ws) f pre).2.2.1), .int (nI (odT Rs n (wAt ws) f pre).2.2.2), .int (nI pre.length), x7] [] I' L' (gg Lx ρ) 0 0
  | [], pre, I', L', x7, e, hf, e198 => by
    have e : ds = pre := e.trans (List.append_nil pre)
    subst e
    have h4 : I' 186 40 = nI ws.length := (hf.2 40 (by simp)).trans hI.1
    have hno : ¬ nI ds.length < I' 186 40 := by rw [h4, hlen]; exact nI_nlt (Nat.le_refl _) (by omega)
    refine sy_Model_orders_138 (d := d + 5) _ _ _ _ _ _ _ (fun _ => ?_) (fun z => absurd z hno) (fun z => absurd z hno) (fun z => absurd z hno) (fun z => absurd z hno) (fun z => absurd z hno) (fun z => absurd z hno)
    refine sp_Model_putsBack (d := d + 7) (f := f) (fun k hk => by rw [hf.1 201 (by decide) (by simp)]; exact hI.2.2 k hk) (fun k hk => by rw [e198]; exact tal_i (odT_tal hwf.1 ds) (by omega)) (fun I2 f2 e2 => ?_)
    exact h I2 L' _ _ (hf.tr (f2.w (by simp) (by simp))) e2
  | i :: suf, pre, I', L', x7, e, hf, e198 => by
    have h4 : I' 186 40 = nI ws.length := (hf.2 40 (by simp)).trans hI.1
    have hpl : pre.length < ws.length := by rw [← hlen, e]; simp
    have hi : i < ws.length := hd i (by rw [e]; simp)
    have hpre : ∀ j ∈ pre, j < ws.length := fun j hj => hd j (by rw [e]; simp [hj])
    obtain ⟨w1, w2⟩ := hws _ (List.mem_of_getElem? (wAt_i hi))
    obtain ⟨g1, g2, g3, g4, g5, g6, g7, g8⟩ := hL _ w1
    have hlp := g4.resolve_left w2.1
    obtain ⟨wf1, wf2, wf3⟩ := odT_wf (Rs := Rs) hwf hL hws pre hpre
    have ht := odT_tal (Rs := Rs) (W := wAt ws) (f := f) hwf.1 pre
    have hyes : nI pre.length < I' 186 40 := by rw [h4]; exact nI_lt hpl (by omega)
    have e7 : I' 207 (nI pre.length).toNatClampNeg = nI i := by
      rw [nI_clamp (by omega), hf.1 207 (by decide) (by simp)]
      exact h207 _ _ (by rw [e, List.getElem?_append_right (Nat.le_refl _), Nat.sub_self]; rfl)
    have e6 : I' 206 (I' 207 (nI pre.length).toNatClampNeg).toNatClampNeg = nI (wAt ws i) := by
      rw [e7, nI_clamp (by omega), hf.1 206 (by decide) (by simp)]
      exact hI.2.1 i _ (wAt_i hi)
    refine sy_Model_orders_138 (d := d + 5) _ _ _ _ _ _ _ (fun z => absurd hyes z) (fun _ => vp_in_nI (by omega) (by decide)) (fun _ => by rw [e7]; exact vp_in_nI (by omega) (by decide)) (fun _ => by rw [e6]; exact oL_n (c := 0) (by omega)) (fun _ => by rw [e6]; exact oL_n (c := 1) (by omega)) (fun _ => by rw [e6]; exact oL_n (c := 2) (by omega)) (fun _ => ?_)
    rw [e6]
    have v0 : mL I' (nI (wAt ws i)) 0 = (odT Rs n (wAt ws) f pre).2.1 (104 + 4 * wAt ws i) := by rw [show mL I' (nI (wAt ws i)) 0 = I' 198 (104 + 4 * wAt ws i) from mL_n (c := 0) (by omega), e198]
    have v1 : mL I' (nI (wAt ws i)) 1 = nI (lP (odT Rs n (wAt ws) f pre).2.1 (wAt ws i)) := by rw [show mL I' (nI (wAt ws i)) 1 = I' 198 (104 + 4 * wAt ws i + 1) from mL_n (c := 1) (by omega), e198, tal_i ht (by omega), tal_lP ht]; exact hlp.1
    have v2 : mL I' (nI (wAt ws i)) 2 = nI (lG (odT Rs n (wAt ws) f pre).2.1 (wAt ws i)) := by rw [show mL I' (nI (wAt ws i)) 2 = I' 198 (104 + 4 * wAt ws i + 2) from mL_n (c := 2) (by omega), e198, tal_i ht (by omega), tal_lG ht]; exact g5
    rw [v0, v1, v2]
    have hk : (odT Rs n (wAt ws) f pre).2.1 (104 + 4 * wAt ws i) = nI (lK f (wAt ws i)) := by rw [tal_i ht (by omega)]; exact g1
    have hM' : RCm I' Rs := hf.M (by simp) (by simp) hM
    have elen : (pre ++ [i]).length = pre.length + 1 := by simp
    have hgo := sp_Model_goes (d := d) (Rs := Rs) (Lx := Lx) (ρ := ρ) (I := I') (L := L') (n := n) (t := lG (odT Rs n (wAt ws) f pre).2.1 (wAt ws i)) (p := lP (odT Rs n (wAt ws) f pre).2.1 (wAt ws i)) (kk := lK f (wAt ws i)) (k := (odT Rs n (wAt ws) f pre).2.1 (104 + 4 * wAt ws i))
      (Q := fun r I' L' G' => am_W am_all (am_run (d + 8)) e_Model_orders Q 186 [.ref 186, .int x1, .int x2, .int x3, .int (nI (odT Rs n (wAt ws) f pre).2.2.1), .int (nI (odT Rs n (wAt ws) f pre).2.2.2), .int (nI pre.length), .int (nI (wAt ws i))] (r.toList ++ ([] : List Value)) I' L' G' 0 0)
      (by rw [e198, ht 1 (by omega)]; exact hn1) (by rw [e198]; exact wf1) hk g2 g3 (by rw [e198, ht 6 (by omega)]; exact hfo) hw hM' (by rw [tal_lG ht]; omega) (by rw [tal_lP ht]; exact hlp.2)
    rw [e198] at hgo
    refine hgo (fun hgo I2 L2 f2 l2 e2 => ?_) (fun hgo I2 L2 f2 l2 => ?_)
    · have eT : odT Rs n (wAt ws) f (pre ++ [i]) = ((odT Rs n (wAt ws) f pre).1 ||| 2 ^ i, pG Rs (odT Rs n (wAt ws) f pre).2.1 n ((odT Rs n (wAt ws) f pre).2.1 (104 + 4 * wAt ws i)) (lG (odT Rs n (wAt ws) f pre).2.1 (wAt ws i)) (lP (odT Rs n (wAt ws) f pre).2.1 (wAt ws i)), (odT Rs n (wAt ws) f pre).2.2.1 + lW (odT Rs n (wAt ws) f pre).2.1 (wAt ws i), (odT Rs n (wAt ws) f pre).2.2.2 + 1) := by
        rw [odT_sn]; unfold odS; rw [if_pos hgo]
      have ht2 := odT_tal (Rs := Rs) (W := wAt ws) (f := f) hwf.1 (pre ++ [i])
      have v3 : mL I2 (nI (wAt ws i)) 3 = nI (lW (odT Rs n (wAt ws) f pre).2.1 (wAt ws i)) := by
        rw [show mL I2 (nI (wAt ws i)) 3 = I2 198 (104 + 4 * wAt ws i + 3) from mL_n (c := 3) (by omega), e2, tal_i (tal_pG hwf.1) (by omega), tal_i ht (by omega), tal_lW ht]; exact g7
      refine sy_Model_orders_186 (d := d + 5) _ _ _ _ _ _ _ _ (fun _ => oL_n (c := 3) (by omega)) (fun _ => ?_) (fun z => absurd z (nI_pos (by omega)))
      rw [v3, nI_add, nI_1, nI_1]
      have := lp_moG (x1 := x1) (x2 := x2) (x3 := x3) hn1 hwf hL hP10 hfo hm hw hM hs hws hI hd hlen h207 h suf (pre ++ [i]) I2 L2 (.int (nI (wAt ws i))) (by rw [e]; simp) (hf.tr (f2.w (by simp) (by simp))) (by rw [eT]; exact e2)
      rw [eT, elen] at this
      exact this
    · have eT : odT Rs n (wAt ws) f (pre ++ [i]) = ((odT Rs n (wAt ws) f pre).1 ||| 2 ^ i, (odT Rs n (wAt ws) f pre).2.1, (odT Rs n (wAt ws) f pre).2.2.1, (odT Rs n (wAt ws) f pre).2.2.2) := by
        rw [odT_sn]; unfold odS; rw [if_neg hgo]
      refine sy_Model_orders_186 (d := d + 5) _ _ _ _ _ _ _ _ (fun z => absurd (by decide) z) (fun z => absurd (by decide) z) (fun _ => ?_)
      rw [nI_1]
      have := lp_moG (x1 := x1) (x2 := x2) (x3 := x3) hn1 hwf hL hP10 hfo hm hw hM hs hws hI hd hlen h207 h suf (pre ++ [i]) I2 L2 (.int (nI (wAt ws i))) (by rw [e]; simp) (hf.tr (f2.w (by simp) (by simp))) (by rw [eT]; show I2 198 = _; rw [f2.1 198 (by decide) (by simp)]; exact e198)
      rw [eT, elen] at this
      exact this
/-- the best row is kept -/
theorem lp_moK {I : am_I} {L : am_L} {K : am_C} {ws ds : List Nat} {x1 x2 x3 x4 x5 : Int32} {x7 : Value} (hs : ws.length ≤ 6) (h40 : I 186 40 = nI ws.length) (h206 : ∀ i l, ws[i]? = some l → I 206 i = nI l) (hd : ∀ i ∈ ds, i < ws.length) (hlen : ds.length = ws.length) (h207 : ∀ j i, ds[j]? = some i → I 207 j = nI i)
    (h : ∀ I' (x6 : Int32), frm [208] [] I I' → (∀ j i, ds[j]? = some i → I' 208 j = nI (wAt ws i)) → am_W am_all K e_Model_orders Q 106 [.ref 186, .int x1, .int x2, .int (x3 + 1), .int x4, .int x5, .int x6, x7] [] I' L (gg Lx ρ) 0 0) : ∀ q k I', k + q = ws.length → frm [208] [] I I' → (∀ j i, j < k → ds[j]? = some i → I' 208 j = nI (wAt ws i)) → am_W am_all K e_Model_orders Q 244 [.ref 186, .int x1, .int x2, .int x3, .int x4, .int x5, .int (nI k), x7] [] I' L (gg Lx ρ) 0 0
  | 0, k, I', e, hf, hv => by
    have e : k = ws.length := e
    subst e
    have hno : ¬ nI ws.length < I' 186 40 := by rw [hf.2 40 (by simp), h40]; exact nI_nlt (Nat.le_refl _) (by omega)
    exact sz_Model_orders_244 _ _ _ _ _ _ _ (fun _ => h I' _ hf (fun j i z => hv j i (by have := (List.getElem?_eq_some_iff.mp z).1; omega) z)) (fun z => absurd z hno) (fun z => absurd z hno) (fun z => absurd z hno)
  | q + 1, k, I', e, hf, hv => by
    have hk : k < ws.length := by omega
    have hyes : nI k < I' 186 40 := by rw [hf.2 40 (by simp), h40]; exact nI_lt hk (by omega)
    have hz : ds[k]? = some ds[k] := List.getElem?_eq_getElem (by omega)
    have hi : ds[k] < ws.length := hd _ (List.getElem_mem _)
    have e7 : I' 207 (nI k).toNatClampNeg = nI ds[k] := by rw [nI_clamp (by omega), hf.1 207 (by decide) (by simp)]; exact h207 _ _ hz
    have e6 : I' 206 (I' 207 (nI k).toNatClampNeg).toNatClampNeg = nI (wAt ws ds[k]) := by rw [e7, nI_clamp (by omega), hf.1 206 (by decide) (by simp)]; exact h206 _ _ (wAt_i hi)
    refine sz_Model_orders_244 _ _ _ _ _ _ _ (fun z => absurd hyes z) (fun _ => vp_in_nI (by omega) (by decide)) (fun _ => by rw [e7]; exact vp_in_nI (by omega) (by decide)) (fun _ => ?_)
    rw [e6, nI_clamp (by omega), nI_1]
    refine lp_moK hs h40 h206 hd hlen h207 h q (k + 1) _ (by omega) (hf.u (by simp) (by decide)) (fun j i hj z => ?_)
    by_cases y : j = k
    · subst y
      rw [am_u_at, Option.some.inj (hz.symm.trans z)]
    · rw [am_u_nk y]; exact hv j i (by omega) z
/-- all rows that begin so -/
theorem lp_moA {I : am_I} {f : Nat → Int32} {P n m : Nat} {ws : List Nat} {x1 : Nat} (hx1 : x1 = ws.length ^ ws.length) (hn1 : f 1 = nI n) (hwf : wfN f n) (hL : wfL f P m) (hP10 : P ≤ 10) (hfo : foR Rs (f 6)) (hm : m ≤ 8) (hw : wfRs Rs) (hM : RCm I Rs) (hs : ws.length ≤ 6) (hs0 : 0 < ws.length) (hws : ∀ l ∈ ws, l < m ∧ pWa f l) (hI : moI I f ws) : ∀ k ds b (I' : am_I) (L' : am_L) (x4 x5 x6 x7 : Value), ds.length + k = ws.length → (∀ i ∈ ds, i < ws.length) → frm [198, 199, 200, 207, 208] [24, 29, 41, 42] I I' → I' 198 = f → moB I' ws b →
    (∀ I2 L2 (x4 x5 x6 x7 : Value), frm [198, 199, 200, 207, 208] [24, 29, 41, 42] I I2 → I2 198 = f → moB I2 ws (odA (odT Rs n (wAt ws) f) ws.length k ds b) → am_W am_all (am_run (d + 8)) e_Model_orders Q 106 [.ref 186, .int (nI x1), .int (nI (odA (odT Rs n (wAt ws) f) ws.length k ds b).1 - 1), .int (nI ((dgV ws.length ds + 1) * ws.length ^ k)), x4, x5, x6, x7] [] I2 L2 (gg Lx ρ) 0 0) →
    am_W am_all (am_run (d + 8)) e_Model_orders Q 106 [.ref 186, .int (nI x1), .int (nI b.1 - 1), .int (nI (dgV ws.length ds * ws.length ^ k)), x4, x5, x6, x7] [] I' L' (gg Lx ρ) 0 0
  | 0, ds, b, I', L', x4, x5, x6, x7, e, hd, hf, e198, hB, h => by
    have e : ds.length = ws.length := e
    rw [Nat.pow_zero, Nat.mul_one] at h ⊢
    have hlt := dgV_lt (s := ws.length) ds hd
    have hpw : ws.length ^ ws.length ≤ 6 ^ 6 := Nat.le_trans (Nat.pow_le_pow_left hs _) (Nat.pow_le_pow_right (by decide) hs)
    have h66 : 6 ^ 6 = 46656 := by decide
    rw [e, ← hx1] at hlt
    have hI' := moI_fr hf hI
    refine sy_Model_orders_106 (d := d + 5) _ _ _ _ _ _ _ (fun z => absurd (nI_lt hlt (by omega)) z) (fun _ z => absurd (by rw [hI'.1]; exact nI_lt (a := 0) hs0 (by omega)) z) (fun _ _ => ?_)
    refine sp_isRow (d := d + 7) (by omega) hs0 hI'.1 hd e (fun I2 f2 v2 => ?_)
    have hf2 : frm [198, 199, 200, 207, 208] [24, 29, 41, 42] I I2 := hf.tr (f2.w (by simp) (by simp))
    have e2 : I2 198 = f := (f2.1 198 (by decide) (by simp)).trans e198
    have hB2 : moB I2 ws b := ⟨(f2.2 41 (by simp)).trans hB.1, hB.2.1, (f2.2 42 (by simp)).trans hB.2.2.1, fun j i z => by rw [f2.1 208 (by decide) (by simp)]; exact hB.2.2.2 j i z⟩
    have hI2 := moI_fr hf2 hI
    obtain ⟨wf1, wf2, wf3⟩ := odT_wf (Rs := Rs) hwf hL hws ds hd
    refine sy_Model_orders_123 (d := d + 5) _ _ _ _ _ _ _ _ (fun z => ?_) (fun z => ?_)
    · have hfull := bI1 z
      have eA : odA (odT Rs n (wAt ws) f) ws.length 0 ds b = odL (odT Rs n (wAt ws) f ds) ds b := by
        unfold odA; rw [odT_b, if_pos hfull]
      rw [eA] at h
      refine lp_moG (x1 := nI x1) hn1 hwf hL hP10 hfo hm hw (hf2.M (by simp) (by simp) hM) hs hws hI2 hd e v2 (fun I3 L3 y6 y7 f3 e3 => ?_) ds [] I2 L' x7 (by simp) frm.rf e2
      have hf3 : frm [198, 199, 200, 207, 208] [24, 29, 41, 42] I I3 := hf2.tr (f3.w (by simp) (by simp))
      have hB3 : moB I3 ws b := ⟨(f3.2 41 (by simp)).trans hB2.1, hB2.2.1, (f3.2 42 (by simp)).trans hB2.2.2.1, fun j i z => by rw [f3.1 208 (by decide) (by simp)]; exact hB2.2.2.2 j i z⟩
      have hI3 := moI_fr hf3 hI
      have hlt2 := odB_lt (b := b.1) (w := (odT Rs n (wAt ws) f ds).2.2.1) hB.2.1 (by omega)
      refine sy_Model_orders_217 (d := d + 5) _ _ _ _ _ _ _ (fun z => ?_) (fun z => ?_)
      · rw [hlt2] at z
        have eL : odL (odT Rs n (wAt ws) f ds) ds b = ((odT Rs n (wAt ws) f ds).2.2.1 + 1, (odT Rs n (wAt ws) f ds).2.2.2, ds) := if_pos z
        rw [eL] at h
        refine lp_moK (x3 := nI (dgV ws.length ds)) hs (by rw [am_u_nk (by decide), am_u_nk (by decide)]; exact hI3.1) (fun i l z => by rw [am_u_ne (by decide), am_u_ne (by decide)]; exact hI3.2.1 i l z) hd e (fun j i z => by rw [am_u_ne (by decide), am_u_ne (by decide), f3.1 207 (by decide) (by simp)]; exact v2 j i z) (fun I4 y6' f4 v4 => ?_) ws.length 0 _ (by omega) frm.rf (fun j i z => absurd z (by omega))
        rw [nI_1, show nI (odT Rs n (wAt ws) f ds).2.2.1 = nI ((odT Rs n (wAt ws) f ds).2.2.1 + 1) - 1 from (nI_pred _).symm]
        have := h I4 L3 (.int (nI ((odT Rs n (wAt ws) f ds).2.2.1))) (.int (nI (odT Rs n (wAt ws) f ds).2.2.2)) (.int y6') y7 (((hf3.uf (by simp)).uf (by simp)).tr (f4.w (by simp) (by simp))) (by rw [f4.1 198 (by decide) (by simp), am_u_ne (by decide), am_u_ne (by decide)]; exact e3) ⟨?_, ?_, ?_, v4⟩
        · rw [show nI (odT Rs n (wAt ws) f ds).2.2.1 = nI ((odT Rs n (wAt ws) f ds).2.2.1 + 1) - 1 from (nI_pred _).symm] at this
          exact this
        · rw [f4.2 41 (by simp), am_u_nk (by decide), am_u_at]; rfl
        · show (odT Rs n (wAt ws) f ds).2.2.1 + 1 ≤ 1000
          omega
        · rw [f4.2 42 (by simp), am_u_at]
      · rw [hlt2] at z
        have eL : odL (odT Rs n (wAt ws) f ds) ds b = b := if_neg z
        rw [eL] at h
        rw [nI_1]
        exact h I3 L3 _ _ _ _ hf3 e3 hB3
    · have hnf := bI0 z
      have eA : odA (odT Rs n (wAt ws) f) ws.length 0 ds b = b := by
        unfold odA; rw [odT_b, if_neg hnf]
      rw [eA] at h
      rw [nI_1]
      exact h I2 L' _ _ _ _ hf2 e2 hB2
  | k + 1, ds, b, I', L', x4, x5, x6, x7, e, hd, hf, e198, hB, h => by
    have key : ∀ q i b' (I' : am_I) (L' : am_L) (x4 x5 x6 x7 : Value), i + q = ws.length → frm [198, 199, 200, 207, 208] [24, 29, 41, 42] I I' → I' 198 = f → moB I' ws b' →
        (∀ I2 L2 (x4 x5 x6 x7 : Value), frm [198, 199, 200, 207, 208] [24, 29, 41, 42] I I2 → I2 198 = f → moB I2 ws (odF (fun i b => odA (odT Rs n (wAt ws) f) ws.length k (ds ++ [i]) b) q i b') → am_W am_all (am_run (d + 8)) e_Model_orders Q 106 [.ref 186, .int (nI x1), .int (nI (odF (fun i b => odA (odT Rs n (wAt ws) f) ws.length k (ds ++ [i]) b) q i b').1 - 1), .int (nI ((dgV ws.length ds * ws.length + ws.length) * ws.length ^ k)), x4, x5, x6, x7] [] I2 L2 (gg Lx ρ) 0 0) →
        am_W am_all (am_run (d + 8)) e_Model_orders Q 106 [.ref 186, .int (nI x1), .int (nI b'.1 - 1), .int (nI ((dgV ws.length ds * ws.length + i) * ws.length ^ k)), x4, x5, x6, x7] [] I' L' (gg Lx ρ) 0 0 := by
      intro q
      induction q with
      | zero =>
        intro i b' I' L' x4 x5 x6 x7 e1 f1 e2 B1 h1
        have e1 : i = ws.length := e1
        subst e1
        exact h1 I' L' x4 x5 x6 x7 f1 e2 B1
      | succ q ihq =>
        intro i b' I' L' x4 x5 x6 x7 e1 f1 e2 B1 h1
        rw [← dgV_sn]
        refine lp_moA hx1 hn1 hwf hL hP10 hfo hm hw hM hs hs0 hws hI k (ds ++ [i]) b' I' L' x4 x5 x6 x7 (by simp; omega) (fun j hj => ?_) f1 e2 B1 (fun I2 L2 y4 y5 y6 y7 f2 e3 B2 => ?_)
        · rcases List.mem_append.mp hj with y | y
          · exact hd j y
          · rw [List.mem_singleton.mp y]; omega
        · rw [dgV_sn, Nat.add_assoc]
          exact ihq (i + 1) _ I2 L2 y4 y5 y6 y7 (by omega) f2 e3 B2 h1
    have := key ws.length 0 b I' L' x4 x5 x6 x7 (by omega) hf e198 hB (fun I2 L2 y4 y5 y6 y7 f2 e2 B2 => ?_)
    · rw [show (dgV ws.length ds * ws.length + 0) * ws.length ^ k = dgV ws.length ds * ws.length ^ (k + 1) by rw [Nat.add_zero, Nat.mul_assoc, Nat.pow_succ, Nat.mul_comm (ws.length ^ k)]] at this
      exact this
    · have := h I2 L2 y4 y5 y6 y7 f2 e2 B2
      rw [show (dgV ws.length ds + 1) * ws.length ^ (k + 1) = (dgV ws.length ds * ws.length + ws.length) * ws.length ^ k by rw [Nat.pow_succ, Nat.mul_comm (ws.length ^ k), ← Nat.mul_assoc, Nat.add_mul, Nat.one_mul]] at this
      exact this
end ODM
