/-! ===== who drove, of the reference ===== -/
def vAl (b : Nat × List Nat × Nat) : Int32 := if b.1 = 0 then 255 else nI b.2.2
def dmB (I : am_I) (b : Nat × List Nat × Nat) : Prop := b.2.2 < 256 ∧ ∀ j l, b.2.1[j]? = some l → I 210 j = nI l
section DRR
variable {d Lx : Nat} {ρ : List (Nat × Nat)} {Q : am_Q} {Rs : List (List (Nat × List Nat))}
theorem sp_isDriven {I : am_I} {L : am_L} {f : Nat → Int32} {P n m N : Nat} {ds : List Nat} (h198 : I 198 = f) (hn1 : f 1 = nI n) (hm1 : f 3 = nI m) (hn : n ≤ 16) (hwf : wfN f n) (hL : wfL f P m) (hP10 : P ≤ 10) (hfo : foR Rs (f 6)) (hs : ∀ r, r < n → f (136 + r) = -1 ∨ ¬ f (136 + r) < 0) (hm : m ≤ 8) (hw : wfRs Rs) (hM : RCm I Rs) (h201 : ∀ k, k < 152 → I 201 k = f k) (hN : N ≤ 3) (hlen : ds.length = N) (h8 : ∀ l ∈ ds, l < 8)
    (h : ∀ I' L', frm [198, 199, 200, 209] [24, 29] I I' → I' 198 = f → (dvV n (dvT Rs n m f ds) = true → ∀ j l, ds[j]? = some l → I' 209 j = nI l) → Q (some (.int (bI (dvV n (dvT Rs n m f ds) = true)))) I' L' (gg Lx ρ)) : am_run (d + 9) m_Model_isDriven [.ref 186, .int (nI N), .int (nI (dgV 8 ds))] I L (gg Lx ρ) Q := by
  subst hlen
  exact run_in rfl rfl ⟨rfl, rfl⟩ (sy_Model_isDriven_0 (d := d + 5) _ _ (lp_isDp h198 hn1 hm1 hn hwf hL hP10 hfo hs hm hw hM h201 hN rfl h8 h ds [] I L 0 _ (by simp) frm.rf (fun j l z => absurd z (by simp)) (by decide) (fun l => by simp) List.nodup_nil (by simp)))
theorem bts256 {ds : List Nat} (h8 : ∀ l ∈ ds, l < 8) : bts ds < 256 := bts_lt (s := 8) ds h8
theorem lp_dmS {I : am_I} {L : am_L} {N : Nat} {ds : List Nat} {b : Nat × List Nat × Nat} {x2 x3 x5 x6 : Int32} (hN : N ≤ 3) (hlen : ds.length = N) (h8 : ∀ l ∈ ds, l < 8) (hb : b.1 ≤ 1000) (h209 : ∀ j l, ds[j]? = some l → I 209 j = nI l)
    (h : ∀ I' (x7 x8 : Value), frm [210] [] I I' → (b.1 = 0 → ∀ j l, ds[j]? = some l → I' 210 j = nI l) → (b.1 ≠ 0 → I' 210 = I 210) → am_W am_all (am_run (d + 1)) e_Model_drove Q 78 [.ref 186, .int (nI N), .int x2, .int x3, .int (nI b.1 + 1), .int (x5 &&& nI (bts ds)), .int (x6 + 1), x7, x8] [] I' L (gg Lx ρ) 0 0) : ∀ suf pre I', ds = pre ++ suf → frm [210] [] I I' → (b.1 = 0 → ∀ j l, pre[j]? = some l → I' 210 j = nI l) → (b.1 ≠ 0 → I' 210 = I 210) → am_W am_all (am_run (d + 1)) e_Model_drove Q 103 [.ref 186, .int (nI N), .int x2, .int x3, .int (nI b.1), .int x5, .int x6, .int (nI (bts pre)), .int (nI pre.length)] [] I' L (gg Lx ρ) 0 0
  | [], pre, I', e, hf, h0, h1 => by
    have e : ds = pre := e.trans (List.append_nil pre)
    rw [← e] at h0 ⊢
    have hno : ¬ nI ds.length < nI N := by rw [hlen]; exact nI_nlt (Nat.le_refl _) (by omega)
    exact sy_Model_drove_103 _ _ _ _ _ _ _ _ (fun _ => h I' _ _ hf h0 h1) (fun z => absurd z hno) (fun z => absurd z hno) (fun z => absurd z hno)
  | l :: suf, pre, I', e, hf, h0, h1 => by
    have hpl : pre.length < N := by rw [← hlen, e]; simp
    have hyes : nI pre.length < nI N := nI_lt hpl (by omega)
    have hl8 : l < 8 := h8 l (by rw [e]; simp)
    have hp8 : bts pre < 256 := bts256 (fun x hx => h8 x (by rw [e]; simp [hx]))
    have e9 : I' 209 (nI pre.length).toNatClampNeg = nI l := by
      rw [nI_clamp (by omega), hf.1 209 (by decide) (by simp)]
      exact h209 _ _ (by rw [e, List.getElem?_append_right (Nat.le_refl _), Nat.sub_self]; rfl)
    have elen : (pre ++ [l]).length = pre.length + 1 := by simp
    have ebit : nI (bts pre) ||| (1 <<< (nI l &&& 31)) = nI (bts (pre ++ [l])) := by rw [bts_sn]; exact (rb_or _ (by omega) l (by omega)).1
    refine sy_Model_drove_103 _ _ _ _ _ _ _ _ (fun z => absurd hyes z) (fun _ => vp_in_nI (by omega) (by decide)) (fun _ z => ?_) (fun _ z => ?_)
    · have hb0 : b.1 ≠ 0 := fun q => z (by rw [q]; rfl)
      rw [e9, ebit, nI_1, ← elen]
      exact lp_dmS hN hlen h8 hb h209 h suf (pre ++ [l]) I' (by rw [e]; simp) hf (fun q => absurd q hb0) h1
    · have hb0 : b.1 = 0 := (nI_eq (a := b.1) (b := 0) (by omega) (by decide)).mp z
      rw [e9, ebit, nI_1, ← elen, nI_clamp (by omega)]
      refine lp_dmS hN hlen h8 hb h209 h suf (pre ++ [l]) _ (by rw [e]; simp) (hf.u (by simp) (by decide)) (fun q j x hx => ?_) (fun q => absurd hb0 q)
      by_cases y : j = pre.length
      · subst y
        rw [List.getElem?_append_right (Nat.le_refl _), Nat.sub_self] at hx
        rw [am_u_at, ← Option.some.inj hx]
      · have hlt : j < pre.length := by
          have := (List.getElem?_eq_some_iff.mp hx).1
          simp at this; omega
        rw [List.getElem?_append_left hlt] at hx
        rw [am_u_nk y]; exact h0 q j x hx
theorem and255 : ∀ x, x < 256 → (255 : Int32) &&& nI x = nI x := by decide +kernel
theorem lp_dmA {I : am_I} {f : Nat → Int32} {P n m N : Nat} {w : Int32} (hn1 : f 1 = nI n) (hm1 : f 3 = nI m) (hn : n ≤ 16) (hwf : wfN f n) (hL : wfL f P m) (hP10 : P ≤ 10) (hfo : foR Rs (f 6)) (hs : ∀ r, r < n → f (136 + r) = -1 ∨ ¬ f (136 + r) < 0) (hm : m ≤ 8) (hw : wfRs Rs) (hM : RCm I Rs) (h201 : ∀ k, k < 152 → I 201 k = f k) (hN : N ≤ 3) : ∀ k ds b (I' : am_I) (L' : am_L) (x7 x8 : Value), ds.length + k = N → (∀ l ∈ ds, l < 8) → b.1 + 8 ^ k ≤ 1000 → frm [198, 199, 200, 209, 210] [24, 29] I I' → I' 198 = f → dmB I' b →
    (∀ I2 L2 (x7 x8 : Value), frm [198, 199, 200, 209, 210] [24, 29] I I2 → I2 198 = f → dmB I2 (dvL n (dvT Rs n m f) k ds b) → am_W am_all (am_run (d + 9)) e_Model_drove Q 78 [.ref 186, .int (nI N), .int w, .int (nI (8 ^ N)), .int (nI (dvL n (dvT Rs n m f) k ds b).1), .int (vAl (dvL n (dvT Rs n m f) k ds b)), .int (nI ((dgV 8 ds + 1) * 8 ^ k)), x7, x8] [] I2 L2 (gg Lx ρ) 0 0) →
    am_W am_all (am_run (d + 9)) e_Model_drove Q 78 [.ref 186, .int (nI N), .int w, .int (nI (8 ^ N)), .int (nI b.1), .int (vAl b), .int (nI (dgV 8 ds * 8 ^ k)), x7, x8] [] I' L' (gg Lx ρ) 0 0
  | 0, ds, b, I', L', x7, x8, e, h8, hb, hf, e198, hB, h => by
    have e : ds.length = N := e
    rw [Nat.pow_zero, Nat.mul_one] at h ⊢
    have hb : b.1 + 1 ≤ 1000 := hb
    have hlt := dgV_lt (s := 8) ds h8
    rw [e] at hlt
    have hpw : 8 ^ N ≤ 8 ^ 3 := Nat.pow_le_pow_right (by decide) hN
    have h512 : 8 ^ 3 = 512 := by decide
    have hyes : nI (dgV 8 ds) < nI (8 ^ N) := nI_lt hlt (by omega)
    refine sy_Model_drove_78 (d := d + 8) _ _ _ _ _ _ _ _ (fun z => absurd hyes z) (fun z => absurd hyes z) (fun z => absurd hyes z) (fun z => absurd hyes z) (fun z => absurd hyes z) (fun z => absurd hyes z) (fun _ => ?_)
    refine sp_isDriven (d := d) e198 hn1 hm1 hn hwf hL hP10 hfo hs hm hw (hf.M (by simp) (by simp) hM) (fun k hk => by rw [hf.1 201 (by decide) (by simp)]; exact h201 k hk) hN e h8 (fun I2 L2 f2 e2 v2 => ?_)
    have hf2 : frm [198, 199, 200, 209, 210] [24, 29] I I2 := hf.tr (f2.w (by simp) (by simp))
    have hB2 : dmB I2 b := ⟨hB.1, fun j l z => by rw [f2.1 210 (by decide) (by simp)]; exact hB.2 j l z⟩
    have hx8 := bts256 h8
    refine sy_Model_drove_91 (d := d + 8) _ _ _ _ _ _ _ _ _ (fun z => ?_) (fun z => ?_)
    · have hv := bI1 z
      have eL : dvL n (dvT Rs n m f) 0 ds b = dvN (bts ds) ds b := by
        unfold dvL
        cases eo : dvT Rs n m f ds with
        | none => rw [eo] at hv; exact absurd (show false = true from hv) (by decide)
        | some st =>
          rw [eo] at hv
          have hv : dvA st.2 n = true := hv
          show (if dvA st.2 n = true then dvN st.1 ds b else b) = _
          rw [if_pos hv, (dvT_p (Rs := Rs) hwf hL hm ds st eo).2.2.2.2.2]
      rw [eL] at h
      refine lp_dmS (d := d + 8) (b := b) hN e h8 (by omega) (v2 hv) (fun I3 y7 y8 f3 w0 w1 => ?_) ds [] I2 rfl frm.rf (fun _ j l z => absurd z (by simp)) (fun _ => rfl)
      rw [nI_1, nI_1]
      have := h I3 L2 y7 y8 (hf2.tr (f3.w (by simp) (by simp))) ((f3.1 198 (by decide) (by simp)).trans e2) ⟨?_, fun j l z => ?_⟩
      · have ev : vAl (dvN (bts ds) ds b) = vAl b &&& nI (bts ds) := by
          unfold vAl
          rw [if_neg (show ¬ (dvN (bts ds) ds b).1 = 0 from Nat.succ_ne_zero _)]
          show nI (if b.1 = 0 then bts ds else b.2.2 &&& bts ds) = _
          by_cases y : b.1 = 0
          · rw [if_pos y, if_pos y, and255 _ hx8]
          · rw [if_neg y, if_neg y, (bt_and _ hB.1 _ hx8).1]
        rw [ev] at this
        exact this
      · show (if b.1 = 0 then bts ds else b.2.2 &&& bts ds) < 256
        split
        · exact hx8
        · exact (bt_and _ hB.1 _ hx8).2
      · have z : (if b.1 = 0 then ds else b.2.1)[j]? = some l := z
        by_cases y : b.1 = 0
        · rw [if_pos y] at z; exact w0 y j l z
        · rw [if_neg y] at z; rw [w1 y]; exact hB2.2 j l z
    · have hv := bI0 z
      have eL : dvL n (dvT Rs n m f) 0 ds b = b := by
        unfold dvL
        cases eo : dvT Rs n m f ds with
        | none => rfl
        | some st =>
          rw [eo] at hv
          have hv : ¬ dvA st.2 n = true := hv
          show (if dvA st.2 n = true then dvN st.1 ds b else b) = _
          rw [if_neg hv]
      rw [eL] at h
      rw [nI_1]
      exact h I2 L2 _ _ hf2 e2 hB2
  | k + 1, ds, b, I', L', x7, x8, e, h8, hb, hf, e198, hB, h => by
    have key : ∀ q i b' (I' : am_I) (L' : am_L) (x7 x8 : Value), i + q = 8 → b'.1 + q * 8 ^ k ≤ 1000 → frm [198, 199, 200, 209, 210] [24, 29] I I' → I' 198 = f → dmB I' b' →
        (∀ I2 L2 (x7 x8 : Value), frm [198, 199, 200, 209, 210] [24, 29] I I2 → I2 198 = f → dmB I2 (odF (fun l b => dvL n (dvT Rs n m f) k (ds ++ [l]) b) q i b') → am_W am_all (am_run (d + 9)) e_Model_drove Q 78 [.ref 186, .int (nI N), .int w, .int (nI (8 ^ N)), .int (nI (odF (fun l b => dvL n (dvT Rs n m f) k (ds ++ [l]) b) q i b').1), .int (vAl (odF (fun l b => dvL n (dvT Rs n m f) k (ds ++ [l]) b) q i b')), .int (nI ((dgV 8 ds * 8 + 8) * 8 ^ k)), x7, x8] [] I2 L2 (gg Lx ρ) 0 0) →
        am_W am_all (am_run (d + 9)) e_Model_drove Q 78 [.ref 186, .int (nI N), .int w, .int (nI (8 ^ N)), .int (nI b'.1), .int (vAl b'), .int (nI ((dgV 8 ds * 8 + i) * 8 ^ k)), x7, x8] [] I' L' (gg Lx ρ) 0 0 := by
      intro q
      induction q with
      | zero =>
        intro i b' I' L' x7 x8 e1 hb1 f1 e2 B1 h1
        have e1 : i = 8 := e1
        subst e1
        exact h1 I' L' x7 x8 f1 e2 B1
      | succ q ihq =>
        intro i b' I' L' x7 x8 e1 hb1 f1 e2 B1 h1
        have kk : ∀ (K x y : Nat), x + (q + 1) * K ≤ 1000 → y ≤ x + K → y + q * K ≤ 1000 ∧ x + K ≤ 1000 := by
          intro K x y h1 h2
          rw [Nat.succ_mul] at h1
          generalize q * K = z at *
          omega
        rw [← dgV_sn]
        refine lp_dmA hn1 hm1 hn hwf hL hP10 hfo hs hm hw hM h201 hN k (ds ++ [i]) b' I' L' x7 x8 (by simp; omega) (fun j hj => ?_) (kk _ _ b'.1 hb1 (Nat.le_add_right _ _)).2 f1 e2 B1 (fun I2 L2 y7 y8 f2 e3 B2 => ?_)
        · rcases List.mem_append.mp hj with y | y
          · exact h8 j y
          · rw [List.mem_singleton.mp y]; omega
        · rw [dgV_sn, Nat.add_assoc]
          exact ihq (i + 1) _ I2 L2 y7 y8 (by omega) (kk _ _ _ hb1 (dvL_le k (ds ++ [i]) b')).1 f2 e3 B2 h1
    have := key 8 0 b I' L' x7 x8 (by omega) (by rw [Nat.mul_comm, ← Nat.pow_succ]; exact hb) hf e198 hB (fun I2 L2 y7 y8 f2 e2 B2 => ?_)
    · rw [show (dgV 8 ds * 8 + 0) * 8 ^ k = dgV 8 ds * 8 ^ (k + 1) by rw [Nat.add_zero, Nat.mul_assoc, Nat.pow_succ, Nat.mul_comm (8 ^ k)]] at this
      exact this
    · have := h I2 L2 y7 y8 f2 e2 B2
      rw [show (dgV 8 ds + 1) * 8 ^ (k + 1) = (dgV 8 ds * 8 + 8) * 8 ^ k by rw [Nat.pow_succ, Nat.mul_comm (8 ^ k), ← Nat.mul_assoc, Nat.add_mul, Nat.one_mul]] at this
      exact this
theorem sp_Model_drove {I : am_I} {L : am_L} {P n C m : Nat} {c w : Int32} (hwS : wfS Rs (I 198) P n C m) (hw : wfRs Rs) (hM : RCm I Rs)
    (h : ∀ I' L', frB n I I' → Q (some (.int (pDv Rs (I 198) P n m c w))) I' L' (gg Lx ρ)) : am_run (d + 10) m_Model_drove [.ref 186, .int c, .int w] I L (gg Lx ρ) Q := by
  obtain ⟨hn1, hn16, hwf⟩ := hwS.n
  have hm := hwS.m
  have hP := hwS.P
  have i1 : mIn (Int32.toInt64 c) 1 3 ↔ (¬ c < 1 ∧ ¬ 3 < c) := mIn_i (a := 1) (b := 3)
  have i2 : mIn (Int32.toInt64 w) 0 (Int32.toInt64 c) ↔ (¬ w < 0 ∧ ¬ c < w) := mIn_i (a := 0) (b := c)
  unfold pDv at h
  have main : ¬ I 198 0 = 0 → mIn (Int32.toInt64 c) 1 3 → ((¬ w < 0 ∧ ¬ c < w) ∨ w = 4) → ∀ x3 : Int32, x3 = nI (8 ^ c.toNatClampNeg) → am_run (d + 9) m_Model_keeps [.ref 186] I L (gg Lx ρ) (fun r I' L' G' => am_W am_all (am_run (d + 9)) e_Model_drove Q 75 [.ref 186, .int c, .int w, .int x3, .int 0, .int 255, .null, .null, .null] (r.toList ++ ([] : List Value)) I' L' G' 0 0) := by
    intro z0 z1 z2 x3 ex
    have hP0 : 0 < P := Nat.pos_of_ne_zero fun e => z0 (by rw [hP.1, e]; rfl)
    rw [if_pos ⟨hP0, i1.mp z1, z2⟩] at h
    obtain ⟨N, N1, N3, rfl⟩ := nI_btw (a := 1) (b := 3) rfl rfl (by decide) (by decide) (i1.mp z1).1 (i1.mp z1).2
    rw [nI_clamp (by omega)] at h ex
    subst ex
    obtain ⟨p1, p2⟩ := pDB_p (Rs := Rs) (f := I 198) (n := n) (m := m) N3
    refine sp_Model_keeps (d := d + 8) (fun I1 f1 k1 => sy_Model_drove_75 (d := d + 8) _ _ _ _ _ _ _ _ ?_)
    have e1 : I1 198 = I 198 := f1.1 198 (by decide) (by simp)
    have hpw : 8 ^ N ≤ 8 ^ 3 := Nat.pow_le_pow_right (by decide) N3
    have h512 : 8 ^ 3 = 512 := by decide
    have := lp_dmA (d := d) (Q := Q) (Lx := Lx) (ρ := ρ) (I := I1) (w := w) hn1 hm.1 hn16 hwf hwS.l hP.2 hwS.fo hwS.s hm.2 hw (f1.M (by simp) (by simp) hM) k1 N3 N [] (0, [], 0) I1 L .null .null (by simp) (by simp) (by show 0 + 8 ^ N ≤ 1000; omega) frm.rf e1 ⟨by show 0 < 256; decide, fun j l z => absurd z (by simp)⟩ (fun I2 L2 y7 y8 f2 e2 B2 => ?_)
    · rw [show dgV 8 [] * 8 ^ N = 0 by show 0 * 8 ^ N = 0; rw [Nat.zero_mul]] at this
      exact this
    · have fB : frB n I I2 := frm_B ((f1.w (S' := [198, 199, 200, 201, 209, 210]) (F' := [24, 29]) (by simp) (by simp)).tr (f2.w (by simp) (by simp))) (by simp) (by simp) e2
      rw [show (dgV 8 [] + 1) * 8 ^ N = 8 ^ N by show (0 + 1) * 8 ^ N = 8 ^ N; rw [Nat.zero_add, Nat.one_mul]]
      have hno : ¬ nI (8 ^ N) < nI (8 ^ N) := nI_nlt (Nat.le_refl _) (by omega)
      have B2 : dmB I2 (pDB Rs (I 198) n m N) := B2
      show am_W am_all (am_run (d + 9)) e_Model_drove Q 78 [.ref 186, .int (nI N), .int w, .int (nI (8 ^ N)), .int (nI (pDB Rs (I 198) n m N).1), .int (vAl (pDB Rs (I 198) n m N)), .int (nI (8 ^ N)), y7, y8] [] I2 L2 (gg Lx ρ) 0 0
      have h0 : nI (pDB Rs (I 198) n m N).1 = 0 ↔ (pDB Rs (I 198) n m N).1 = 0 := nI_eq (b := 0) (by omega) (by decide)
      have hk : ¬ w = 0 → ¬ w = 4 → ∃ k, 1 ≤ k ∧ k ≤ N ∧ w = nI k := fun y0 y4 => by
        obtain ⟨k, k0, kN, e⟩ := nI_btw (a := 0) (b := N) rfl rfl (by decide) (by omega) (z2.resolve_right y4).1 (z2.resolve_right y4).2
        exact ⟨k, Nat.pos_of_ne_zero fun q => y0 (by rw [e, q]; rfl), kN, e⟩
      refine sy_Model_drove_78 (d := d + 8) _ _ _ _ _ _ _ _ (fun _ y0 y4 _ => ?_) (fun _ y0 y4 y => ?_) (fun _ y0 y4 y => ?_) (fun _ y0 y4 y => ?_) (fun _ y0 y4 y => ?_) (fun _ y0 => ?_) (fun z => absurd z hno)
      · obtain ⟨k, k1, kN, rfl⟩ := hk y0 y4
        rw [show nI k - 1 = nI (k - 1) by rw [show (1 : Int32) = nI 1 from rfl, pk_sub k1]]; exact vp_in_nI (by omega) (by decide)
      · obtain ⟨k, k1, kN, rfl⟩ := hk y0 y4
        have y : ¬ (pDB Rs (I 198) n m N).1 = 0 := fun q => y (h0.mpr q)
        rw [if_neg y0, if_neg y4, if_neg y, nI_clamp (by omega)] at h
        have hz : (pDB Rs (I 198) n m N).2.1[k - 1]? = some (pDB Rs (I 198) n m N).2.1[k - 1] := List.getElem?_eq_getElem (by rw [p2 y]; omega)
        rw [List.getD_eq_getElem?_getD, hz] at h
        rw [show nI k - 1 = nI (k - 1) by rw [show (1 : Int32) = nI 1 from rfl, pk_sub k1], nI_clamp (by omega), B2.2 _ _ hz]
        exact h I2 L2 fB
      · rw [if_neg y0, if_neg y4, if_pos (h0.mp y)] at h; exact h I2 L2 fB
      · have y : ¬ (pDB Rs (I 198) n m N).1 = 0 := fun q => y (h0.mpr q)
        rw [if_neg y0, if_pos y4, if_neg y] at h
        unfold vAl; rw [if_neg y]; exact h I2 L2 fB
      · rw [if_neg y0, if_pos y4, if_pos (h0.mp y)] at h; exact h I2 L2 fB
      · rw [if_pos y0] at h; exact h I2 L2 fB
  have c12 : mIn (Int32.toInt64 c) 1 3 → ¬ c = 1 → ¬ c = 2 → (512 : Int32) = nI (8 ^ c.toNatClampNeg) := fun z y1 y2 => by
    obtain ⟨N, N1, N3, rfl⟩ := nI_btw (a := 1) (b := 3) rfl rfl (by decide) (by decide) (i1.mp z).1 (i1.mp z).2
    have : N = 3 := by
      rcases (by omega : N = 1 ∨ N = 2 ∨ N = 3) with q | q | q
      · subst q; exact absurd rfl y1
      · subst q; exact absurd rfl y2
      · exact q
    subst this; decide
  refine run_in rfl rfl ⟨rfl, rfl⟩ (sy_Model_drove_0 (d := d + 8) _ _ (fun z => ?_) (fun z z2 => ?_) (fun z z2 z3 y1 y2 => main z z2 (Or.inl (i2.mp z3)) _ (c12 z2 y1 y2)) (fun z z2 z3 y1 y2 => main z z2 (Or.inl (i2.mp z3)) _ (by rw [y2]; decide)) (fun z z2 z3 y1 => main z z2 (Or.inl (i2.mp z3)) _ (by rw [y1]; decide)) (fun z z2 _ z3 y1 y2 => main z z2 (Or.inr z3) _ (c12 z2 y1 y2)) (fun z z2 _ z3 y1 y2 => main z z2 (Or.inr z3) _ (by rw [y2]; decide)) (fun z z2 _ z3 y1 => main z z2 (Or.inr z3) _ (by rw [y1]; decide)) (fun z z2 z3 z4 => ?_))
  · rw [if_neg (fun q => by rw [hP.1] at z; exact nI_ne0 q.1 (by omega) z)] at h; exact h I L frB.rf
  · rw [if_neg (fun q => z2 (i1.mpr q.2.1))] at h; exact h I L frB.rf
  · rw [if_neg (fun q => q.2.2.elim (fun y => z3 (i2.mpr y)) z4)] at h; exact h I L frB.rf
end DRR
