/-! ===== orders of the class: trying ===== -/
def odG (T : List Nat → Nat × (Nat → Int32) × Nat × Nat) (s k : Nat) (ds : List Nat) : Nat → Nat × Nat × List Nat → Nat × Nat × List Nat := fun i b => if (T ds).1.testBit i = true then b else odD T s k (ds ++ [i]) b
theorem odD_s {T : List Nat → Nat × (Nat → Int32) × Nat × Nat} {s k : Nat} {ds : List Nat} {b : Nat × Nat × List Nat} : odD T s (k + 1) ds b = odF (odG T s k ds) s 0 b := rfl
section ODT
variable {Lx : Nat} {ρ : List (Nat × Nat)} {Rs : List (List (Nat × List Nat))}
theorem odT_wf {f : Nat → Int32} {P n m : Nat} {ws : List Nat} (hwf : wfN f n) (hL : wfL f P m) (hws : ∀ l ∈ ws, l < m ∧ pWa f l) (ds : List Nat) (hd : ∀ i ∈ ds, i < ws.length) : wfN (odT Rs n (wAt ws) f ds).2.1 n ∧ (odT Rs n (wAt ws) f ds).2.2.1 ≤ 99 * ds.length ∧ (odT Rs n (wAt ws) f ds).2.2.2 ≤ ds.length := by
  have key := odT_ind (Rs := Rs) (n := n) (W := wAt ws) (f := f) (P := fun ds st => (∀ i ∈ ds, i < ws.length) → tal f st.2.1 ∧ wfN st.2.1 n ∧ st.2.2.1 ≤ 99 * ds.length ∧ st.2.2.2 ≤ ds.length) (fun _ => ⟨tal.rf, hwf, Nat.le_refl _, Nat.le_refl _⟩) (fun ds st i ih h => ?_) ds hd
  · exact key.2
  · obtain ⟨i1, i2, i3, i4⟩ := ih fun j hj => h j (List.mem_append_left _ hj)
    have hi : i < ws.length := h i (by simp)
    obtain ⟨w1, w2⟩ := hws _ (List.mem_of_getElem? (wAt_i hi))
    obtain ⟨g1, g2, g3, g4, g5, g6, g7, g8⟩ := hL _ w1
    refine ⟨i1.tr (odS_tal hwf.1), ?_, ?_, ?_⟩
    · unfold odS
      split
      · exact wfN_pG i2 (by rw [tal_i i1 (by omega)]; exact g1) g3
      · exact i2
    · have := tal_lW i1 (wAt ws i)
      unfold odS
      split
      · show st.2.2.1 + lW st.2.1 (wAt ws i) ≤ _
        simp; omega
      · show st.2.2.1 ≤ _
        simp; omega
    · unfold odS
      split
      · show st.2.2.2 + 1 ≤ _
        simp; omega
      · show st.2.2.2 ≤ _
        simp; omega
def odSp (Lx : Nat) (ρ : List (Nat × Nat)) (Rs : List (List (Nat × List Nat))) (f fS : Nat → Int32) (n C m : Nat) (ws : List Nat) (D k : Nat) : Prop :=
  ∀ (Q : am_Q) (I : am_I) (L : am_L) (ds : List Nat) (b : Nat × Nat × List Nat), ds.length + k = ws.length → (∀ i ∈ ds, i < ws.length) → stS I 94 fS n C m → RCc I ρ Rs → odI I f n ws → rdR I (52 + 6 * ds.length) (odT Rs n (wAt ws) f ds).2.1 n → odB I ws b → (∀ j i, ds[j]? = some i → I 49 j = nI (wAt ws i)) →
    (∀ I' L', odR ds.length I I' → odI I' f n ws → odB I' ws (odD (odT Rs n (wAt ws) f) ws.length k ds b) → Q none I' L' (gg Lx ρ)) →
    am_run D m_Orders_tryOrders [.ref 46, .ref 94, .int (nI ds.length), .int (nI (odT Rs n (wAt ws) f ds).1), .int (nI (odT Rs n (wAt ws) f ds).2.2.1), .int (nI (odT Rs n (wAt ws) f ds).2.2.2)] I L (gg Lx ρ) Q
theorem lp_odC {f fS : Nat → Int32} {P n C m d k : Nat} {ws ds : List Nat} {I : am_I} {Q : am_Q} (hwf : wfN f n) (hn : n ≤ 16) (hP : f 0 = nI P) (hP10 : P ≤ 10) (hL : wfL f P m) (hm : m ≤ 8) (hff : ∀ i, 92 ≤ i → f i = fS i) (hw : wfRs Rs) (hs : ws.length ≤ 6) (hws : ∀ l ∈ ws, l < m ∧ pWa f l) (ih : odSp Lx ρ Rs f fS n C m ws (d + k + 6) k)
    (hdk : ds.length + (k + 1) = ws.length) (hd : ∀ i ∈ ds, i < ws.length) (hS : stS I 94 fS n C m) (hC : RCc I ρ Rs) (hR : rdR I (52 + 6 * ds.length) (odT Rs n (wAt ws) f ds).2.1 n) (hrow : ∀ j i, ds[j]? = some i → I 49 j = nI (wAt ws i)) :
    ∀ q i (I' : am_I) (L' : am_L) (b' : Nat × Nat × List Nat) (x7 x8 x9 x10 : Value), i + q = ws.length → odR ds.length I I' → odI I' f n ws → odB I' ws b' →
    (∀ I2 L2, odR ds.length I I2 → odI I2 f n ws → odB I2 ws (odF (odG (odT Rs n (wAt ws) f) ws.length k ds) q i b') → Q none I2 L2 (gg Lx ρ)) →
    am_W am_all (am_run (d + k + 6)) e_Orders_tryOrders Q 71 [.ref 46, .ref 94, .int (nI ds.length), .int (nI (odT Rs n (wAt ws) f ds).1), .int (nI (odT Rs n (wAt ws) f ds).2.2.1), .int (nI (odT Rs n (wAt ws) f ds).2.2.2), .int (nI i), x7, x8, x9, x10] [] I' L' (gg Lx ρ) 0 0
  | 0, i, I', L', b', x7, x8, x9, x10, e, hr, hI, hB, h => by
    have e : i = ws.length := e
    subst e
    have hno : ¬ nI ws.length < I' 46 2 := by rw [hI.1]; exact nI_nlt (Nat.le_refl _) (by omega)
    exact sz_Orders_tryOrders_71 94 _ _ _ _ _ _ _ _ _ (by decide) (fun _ => h I' L' hr hI hB) (fun z => absurd z hno) (fun z => absurd z hno) (fun z => absurd z hno) (fun z => absurd z hno) (fun z => absurd z hno) (fun z => absurd z hno)
  | q + 1, i, I', L', b', x7, x8, x9, x10, e, hr, hI, hB, h => by
    have hi : i < ws.length := by omega
    have hx64 : (odT Rs n (wAt ws) f ds).1 < 64 := Nat.lt_of_lt_of_le (odT_x (Rs := Rs) (n := n) (W := wAt ws) (f := f) (s := ws.length) (by omega) ds hd) (od_pw _ (by omega))
    have hyes : nI i < I' 46 2 := by rw [hI.1]; exact nI_lt hi (by omega)
    have hb := rb_0 (odT Rs n (wAt ws) f ds).1 (by omega) i (by omega)
    obtain ⟨w1, w2⟩ := hws _ (List.mem_of_getElem? (wAt_i hi))
    obtain ⟨g1, g2, g3, g4, g5, g6, g7, g8⟩ := hL _ w1
    have e7 : I' 47 (nI i).toNatClampNeg = nI (wAt ws i) := by rw [nI_clamp (by omega)]; exact hI.2.1 i _ (wAt_i hi)
    refine sz_Orders_tryOrders_71 94 _ _ _ _ _ _ _ _ _ (by decide) (fun z => absurd hyes z) (fun _ _ => vp_in_nI (by omega) (by decide)) (fun _ _ => vp_in_nI (by omega) (by decide)) (fun _ _ => by rw [nI_1]; exact vp_in_nI (by omega) (by decide)) (fun _ _ => vp_in_nI (by omega) (by decide)) (fun _ z => ?_) (fun _ z => ?_)
    · have hbf := hb.mp z
      obtain ⟨wf1, wf2, wf3⟩ := odT_wf (Rs := Rs) hwf hL hws ds hd
      have ht := odT_tal (Rs := Rs) (W := wAt ws) (f := f) hwf.1 ds
      have hap := tl_mem (j := ds.length) (by omega)
      have hap1 := tl_mem (j := ds.length + 1) (by omega)
      rw [e7, nI_1, nI_clamp (n := ds.length) (by omega), nI_clamp (n := ds.length + 1) (by omega)]
      have R1 : rdR (am_u I' 49 ds.length (nI (wAt ws i))) (52 + 6 * ds.length) (odT Rs n (wAt ws) f ds).2.1 n := rdR_fr (fun a h1 h2 => by rw [am_u_ne (by omega)]; exact hr.1 a (by omega) (by omega) (by omega) (by omega) (by omega) (by omega) (by omega) (by omega)) hR
      have T1 : rdT (am_u I' 49 ds.length (nI (wAt ws i))) (52 + 6 * (ds.length + 1)) (odT Rs n (wAt ws) f ds).2.1 n := rdT_cg hwf.1 (fun i hi => ht i (by omega)) (rdT_fr (fun a h1 h2 => am_u_ne (by omega)) (hI.2.2 (ds.length + 1) (by omega)))
      refine sp_Roads_copyTale (d := d + k + 5) hap1 hap (by omega) R1 T1 hwf.1 (fun I2 f2 r2 => ?_)
      have F2 : ∀ a, a ≠ 49 → ¬ (58 + 6 * ds.length ≤ a ∧ a ≤ 63 + 6 * ds.length) → I2 a = I' a := fun a z1 z2 => by rw [f2 a (by simp; omega), am_u_ne z1]
      have S2 : stS I2 94 fS n C m := stS_fr (fun a h1 h2 => by rw [F2 a (by omega) (by omega)]; exact hr.1 a (by omega) (by omega) (by omega) (by omega) (by omega) (by omega) (by omega) (by omega)) hS
      have C2 : RCc I2 ρ Rs := RCc_fr (by rw [F2 21 (by omega) (by omega)]; exact hr.1 21 (by omega) (by omega) (by omega) (by omega) (by omega) (by omega) (by omega) (by omega)) (fun a ha => by rw [F2 a (by omega) (by omega)]; exact hr.1 a (by omega) (by omega) (by omega) (by omega) (by omega) (by omega) (by omega) (by omega)) hC
      obtain ⟨q1, q2, q3, q4⟩ := S2.2.2.2.2.2.1 _ w1
      have hlp := g4.resolve_left w2.1
      refine sz_Orders_tryOrders_130 94 _ _ _ _ _ _ _ _ _ (by decide) hap1 (vp_in_nI (by omega) (by decide)) ?_
      have v1 : I2 (94 + 10) (nI (wAt ws i)).toNatClampNeg = (odT Rs n (wAt ws) f ds).2.1 (104 + 4 * wAt ws i) := by rw [nI_clamp (by omega), q1, ← hff _ (by omega), tal_i ht (by omega)]
      have v2 : I2 (94 + 11) (nI (wAt ws i)).toNatClampNeg = nI (lP (odT Rs n (wAt ws) f ds).2.1 (wAt ws i)) := by rw [nI_clamp (by omega), q2, ← hff _ (by omega), tal_lP ht]; exact hlp.1
      have v3 : I2 (94 + 12) (nI (wAt ws i)).toNatClampNeg = nI (lG (odT Rs n (wAt ws) f ds).2.1 (wAt ws i)) := by rw [nI_clamp (by omega), q3, ← hff _ (by omega), tal_lG ht]; exact g5
      rw [v1, v2, v3]
      have hk : (odT Rs n (wAt ws) f ds).2.1 (104 + 4 * wAt ws i) = nI (lK f (wAt ws i)) := by rw [tal_i ht (by omega)]; exact g1
      have ebit : nI (odT Rs n (wAt ws) f ds).1 ||| (1 <<< (nI i &&& 31)) = nI ((odT Rs n (wAt ws) f ds).1 ||| 2 ^ i) := (rb_or _ (by omega) i (by omega)).1
      have hd1 : ∀ j ∈ ds ++ [i], j < ws.length := fun j hj => by
        rcases List.mem_append.mp hj with y | y
        · exact hd j y
        · rw [List.mem_singleton.mp y]; exact hi
      have elen : (ds ++ [i]).length = ds.length + 1 := by simp
      /- the rest, whichever way it goes -/
      have rest : ∀ (I3 : am_I) (L3 : am_L) (y9 y10 : Value), (∀ a, a ≠ 26 → a ≠ 27 → a ≠ 28 → a ≠ 29 → ¬ (58 + 6 * ds.length ≤ a ∧ a ≤ 63 + 6 * ds.length) → I3 a = I2 a) → rdR I3 (52 + 6 * (ds.length + 1)) (odT Rs n (wAt ws) f (ds ++ [i])).2.1 n →
          am_run (d + k + 6) m_Orders_tryOrders [.ref 46, .ref 94, .int (nI (ds.length + 1)), .int (nI ((odT Rs n (wAt ws) f ds).1 ||| 2 ^ i)), .int (nI (odT Rs n (wAt ws) f (ds ++ [i])).2.2.1), .int (nI (odT Rs n (wAt ws) f (ds ++ [i])).2.2.2)] I3 L3 (gg Lx ρ) (fun r I' L' G' => am_W am_all (am_run (d + k + 6)) e_Orders_tryOrders Q 223 [.ref 46, .ref 94, .int (nI ds.length), .int (nI (odT Rs n (wAt ws) f ds).1), .int (nI (odT Rs n (wAt ws) f ds).2.2.1), .int (nI (odT Rs n (wAt ws) f ds).2.2.2), .int (nI i), .int (nI (wAt ws i)), .ref (52 + 6 * (ds.length + 1)), y9, y10] (r.toList ++ ([] : List Value)) I' L' G' 0 0) := by
        intro I3 L3 y9 y10 F3 R3
        have hr3 : odR ds.length I I3 := by
          refine hr.tr ⟨fun a h1 h2 h3 h4 h5 h6 h7 h8 => ?_, ?_, fun j hj => ?_⟩
          · rw [F3 a h1 h2 h3 h4 (by omega), F2 a h6 (by omega)]
          · rw [F3 46 (by omega) (by omega) (by omega) (by omega) (by omega), F2 46 (by omega) (by omega)]
          · rw [F3 49 (by omega) (by omega) (by omega) (by omega) (by omega), f2 49 (by simp; omega), am_u_nk (by omega)]
        have T3 : ∀ j, j ≤ 6 → rdT I3 (52 + 6 * j) f n := by
          intro j hj
          by_cases y : j = ds.length + 1
          · subst y
            exact rdR.tal R3 (odT_tal hwf.1 (ds ++ [i]))
          · refine rdT_fr (fun a h1 h2 => ?_) (hI.2.2 j hj)
            rw [F3 a (by omega) (by omega) (by omega) (by omega) (by omega), F2 a (by omega) (by omega)]
        have hI3 : odI I3 f n ws := ⟨hr3.2.1.trans (hr.2.1.symm.trans hI.1), fun j l z => by rw [F3 47 (by omega) (by omega) (by omega) (by omega) (by omega), F2 47 (by omega) (by omega)]; exact hI.2.1 j l z, T3⟩
        have hB3 : odB I3 ws b' := by
          obtain ⟨b1, b2, b3, b4⟩ := hB
          have e46 : I3 46 = I' 46 := by rw [F3 46 (by omega) (by omega) (by omega) (by omega) (by omega), F2 46 (by omega) (by omega)]
          have e50 : I3 50 = I' 50 := by rw [F3 50 (by omega) (by omega) (by omega) (by omega) (by omega), F2 50 (by omega) (by omega)]
          exact ⟨by rw [e46]; exact b1, b2, by rw [e46]; exact b3, fun j i z => by rw [e50]; exact b4 j i z⟩
        have hS3 : stS I3 94 fS n C m := stS_fr (fun a h1 h2 => F3 a (by omega) (by omega) (by omega) (by omega) (by omega)) S2
        have hC3 : RCc I3 ρ Rs := RCc_fr (F3 21 (by omega) (by omega) (by omega) (by omega) (by omega)) (fun a ha => F3 a (by omega) (by omega) (by omega) (by omega) (by omega)) C2
        have hrow3 : ∀ j x, (ds ++ [i])[j]? = some x → I3 49 j = nI (wAt ws x) := by
          intro j x hx
          rw [F3 49 (by omega) (by omega) (by omega) (by omega) (by omega), f2 49 (by simp; omega)]
          by_cases y : j = ds.length
          · subst y
            rw [List.getElem?_append_right (Nat.le_refl _), Nat.sub_self] at hx
            rw [am_u_at, ← Option.some.inj hx]
          · have hlt : j < ds.length := by
              have := (List.getElem?_eq_some_iff.mp hx).1
              simp at this; omega
            rw [List.getElem?_append_left hlt] at hx
            rw [am_u_nk y, hr.2.2 j hlt]; exact hrow j x hx
        have := ih (fun r I' L' G' => am_W am_all (am_run (d + k + 6)) e_Orders_tryOrders Q 223 [.ref 46, .ref 94, .int (nI ds.length), .int (nI (odT Rs n (wAt ws) f ds).1), .int (nI (odT Rs n (wAt ws) f ds).2.2.1), .int (nI (odT Rs n (wAt ws) f ds).2.2.2), .int (nI i), .int (nI (wAt ws i)), .ref (52 + 6 * (ds.length + 1)), y9, y10] (r.toList ++ ([] : List Value)) I' L' G' 0 0) I3 L3 (ds ++ [i]) b' (by rw [elen]; omega) hd1 hS3 hC3 hI3 (by rw [elen]; exact R3) hB3 hrow3 (fun I4 L4 r4 i4 b4 => ?_)
        · rw [elen, show (odT Rs n (wAt ws) f (ds ++ [i])).1 = (odT Rs n (wAt ws) f ds).1 ||| 2 ^ i by rw [odT_sn, odS_1]] at this
          exact this
        · rw [elen] at r4
          refine sz_Orders_tryOrders_223 94 _ _ _ _ _ _ _ _ _ (by decide) ?_
          rw [nI_1]
          refine lp_odC hwf hn hP hP10 hL hm hff hw hs hws ih hdk hd hS hC hR hrow q (i + 1) I4 L4 _ _ _ _ _ (by omega) (hr3.tr r4.w) i4 b4 (fun I5 L5 r5 i5 b5 => h I5 L5 r5 i5 ?_)
          show odB I5 ws (odF (odG (odT Rs n (wAt ws) f) ws.length k ds) q (i + 1) (odG (odT Rs n (wAt ws) f) ws.length k ds i b'))
          rw [show odG (odT Rs n (wAt ws) f) ws.length k ds i b' = odD (odT Rs n (wAt ws) f) ws.length k (ds ++ [i]) b' from if_neg (by rw [hbf]; decide)]
          exact b5
      refine sp_Finder_go (d := d + k + 1) hap1 r2 wf1 hw C2 (by rw [ht 0 (by omega)]; exact hP) hP10 (by rw [tal_lG ht]; exact g6) (by rw [tal_lP ht]; exact hlp.2) hk g3 (fun hgo I3 L3 f3 l3 R3 => ?_) (fun hgo I3 L3 f3 l3 => ?_)
      · have hne : ¬ nI (pD Rs (odT Rs n (wAt ws) f ds).2.1 n ((odT Rs n (wAt ws) f ds).2.1 (104 + 4 * wAt ws i)) (lG (odT Rs n (wAt ws) f ds).2.1 (wAt ws i)) (lP (odT Rs n (wAt ws) f ds).2.1 (wAt ws i))) = -2 := fun y => absurd (show nI _ < 0 by rw [y]; decide) (nI_pos (by omega))
        refine sz_Orders_tryOrders_160 94 _ _ _ _ _ _ _ _ _ _ (by decide) hap1 (fun y => absurd y hne) (fun _ => vp_in_nI (by omega) (by decide)) (fun _ => ?_)
        have F3 : ∀ a, a ≠ 26 → a ≠ 27 → a ≠ 28 → a ≠ 29 → ¬ (58 + 6 * ds.length ≤ a ∧ a ≤ 63 + 6 * ds.length) → I3 a = I2 a := fun a h1 h2 h3 h4 h5 => f3 a (by simp; omega)
        have eT : odT Rs n (wAt ws) f (ds ++ [i]) = ((odT Rs n (wAt ws) f ds).1 ||| 2 ^ i, pG Rs (odT Rs n (wAt ws) f ds).2.1 n ((odT Rs n (wAt ws) f ds).2.1 (104 + 4 * wAt ws i)) (lG (odT Rs n (wAt ws) f ds).2.1 (wAt ws i)) (lP (odT Rs n (wAt ws) f ds).2.1 (wAt ws i)), (odT Rs n (wAt ws) f ds).2.2.1 + lW (odT Rs n (wAt ws) f ds).2.1 (wAt ws i), (odT Rs n (wAt ws) f ds).2.2.2 + 1) := by
          rw [odT_sn]; unfold odS; rw [if_pos hgo]
        have v4 : I3 (94 + 13) (nI (wAt ws i)).toNatClampNeg = nI (lW (odT Rs n (wAt ws) f ds).2.1 (wAt ws i)) := by
          rw [F3 (94 + 13) (by omega) (by omega) (by omega) (by omega) (by omega), nI_clamp (by omega), q4, ← hff _ (by omega), tal_lW ht]; exact g7
        have := rest I3 L3 (.int 1) (.int (nI (lW (odT Rs n (wAt ws) f ds).2.1 (wAt ws i)))) F3 (by rw [eT]; exact R3)
        rw [eT] at this
        rw [ebit, nI_1, v4, nI_add, nI_1]
        exact this
      · refine sz_Orders_tryOrders_160 94 _ _ _ _ _ _ _ _ _ _ (by decide) hap1 (fun _ => ?_) (fun y => absurd rfl y) (fun y => absurd rfl y)
        have F3 : ∀ a, a ≠ 26 → a ≠ 27 → a ≠ 28 → a ≠ 29 → ¬ (58 + 6 * ds.length ≤ a ∧ a ≤ 63 + 6 * ds.length) → I3 a = I2 a := fun a h1 h2 h3 h4 h5 => f3 a (by simp; omega)
        have eT : odT Rs n (wAt ws) f (ds ++ [i]) = ((odT Rs n (wAt ws) f ds).1 ||| 2 ^ i, (odT Rs n (wAt ws) f ds).2.1, (odT Rs n (wAt ws) f ds).2.2.1, (odT Rs n (wAt ws) f ds).2.2.2) := by
          rw [odT_sn]; unfold odS; rw [if_neg hgo]
        have := rest I3 L3 (.int 0) (.int 0) F3 (by rw [eT]; exact rdR_fr (fun a h1 h2 => f3 a (by simp; omega)) r2)
        rw [eT] at this
        rw [ebit, nI_1, nI_add0]
        exact this
    · have hbt : (odT Rs n (wAt ws) f ds).1.testBit i = true := by
        cases y : (odT Rs n (wAt ws) f ds).1.testBit i with
        | true => rfl
        | false => exact absurd (hb.mpr y) z
      rw [nI_1]
      refine lp_odC hwf hn hP hP10 hL hm hff hw hs hws ih hdk hd hS hC hR hrow q (i + 1) I' L' b' _ _ _ _ (by omega) hr hI hB (fun I5 L5 r5 i5 b5 => h I5 L5 r5 i5 ?_)
      show odB I5 ws (odF (odG (odT Rs n (wAt ws) f) ws.length k ds) q (i + 1) (odG (odT Rs n (wAt ws) f) ws.length k ds i b'))
      rw [show odG (odT Rs n (wAt ws) f) ws.length k ds i b' = b' from if_pos hbt]
      exact b5
theorem od_try {f fS : Nat → Int32} {P n C m : Nat} {ws : List Nat} (hwf : wfN f n) (hn : n ≤ 16) (hP : f 0 = nI P) (hP10 : P ≤ 10) (hL : wfL f P m) (hm : m ≤ 8) (hff : ∀ i, 92 ≤ i → f i = fS i) (hw : wfRs Rs) (hs : ws.length ≤ 6) (hws : ∀ l ∈ ws, l < m ∧ pWa f l) (d : Nat) : ∀ k, odSp Lx ρ Rs f fS n C m ws (d + k + 6) k
  | 0 => by
    intro Q I L ds b hdk hd hS hC hI hR hB hrow h
    have hdk : ds.length = ws.length := hdk
    obtain ⟨wf1, wf2, wf3⟩ := odT_wf (Rs := Rs) hwf hL hws ds hd
    have hno : ¬ nI ds.length < I 46 2 := by rw [hI.1, hdk]; exact nI_nlt (Nat.le_refl _) (by omega)
    obtain ⟨b1, b2, b3, b4⟩ := hB
    have hlt := odB_lt (b := b.1) (w := (odT Rs n (wAt ws) f ds).2.2.1) b2 (by omega)
    refine run_in (d := d + 5) rfl rfl ⟨rfl, rfl⟩ (sz_Orders_tryOrders_0 94 _ _ _ _ (by decide) (fun _ z => ?_) (fun _ z => ?_) (fun z => absurd z hno) (fun z => absurd z hno) (fun z => absurd z hno))
    · rw [b1, hlt] at z
      refine h I L odR.rf hI ?_
      unfold odD odL
      rw [if_neg z]; exact ⟨b1, b2, b3, b4⟩
    · rw [b1, hlt] at z
      have e46 : ∀ {g : Nat → Int32} {j : Nat} {J : am_I}, am_r J 50 g 46 j = J 46 j := fun {g j J} => by rw [am_r_ne (by decide)]
      refine h _ L ⟨fun a h1 h2 h3 h4 h5 h6 h7 h8 => ?_, ?_, fun j hj => ?_⟩ (odI_fr (fun a h1 h2 h3 h4 h5 => ?_) ?_ hI) ?_
      · rw [am_r_ne h7, am_u_ne h5, am_u_ne h5]
      · rw [e46, am_u_nk (by decide), am_u_nk (by decide)]
      · rw [am_r_ne (by decide), am_u_ne (by decide), am_u_ne (by decide)]
      · rw [am_r_ne h4, am_u_ne (by omega), am_u_ne (by omega)]
      · rw [e46, am_u_nk (by decide), am_u_nk (by decide)]
      · unfold odD odL
        rw [if_pos z]
        refine ⟨?_, ?_, ?_, fun j i hj => ?_⟩
        · rw [e46, am_u_nk (by decide), am_u_at]; exact (nI_pred _).symm
        · show (odT Rs n (wAt ws) f ds).2.2.1 + 1 ≤ 1000
          omega
        · rw [e46, am_u_at]
        · have hj : ds[j]? = some i := hj
          have hj6 : j < 6 := by
            have := (List.getElem?_eq_some_iff.mp hj).1
            omega
          rw [am_r_at, cpyN hj6, am_u_ne (by decide), am_u_ne (by decide)]
          exact hrow j i hj
  | k + 1 => by
    intro Q I L ds b hdk hd hS hC hI hR hB hrow h
    obtain ⟨wf1, wf2, wf3⟩ := odT_wf (Rs := Rs) hwf hL hws ds hd
    have hyes : nI ds.length < I 46 2 := by rw [hI.1]; exact nI_lt (by omega) (by omega)
    have h6 : nI ds.length < 6 := nI_lt (b := 6) (by omega) (by decide)
    have hx64 : (odT Rs n (wAt ws) f ds).1 < 64 := Nat.lt_of_lt_of_le (odT_x (Rs := Rs) (n := n) (W := wAt ws) (f := f) (s := ws.length) (by omega) ds hd) (od_pw _ (by omega))
    have hlf := lft_le (x := (odT Rs n (wAt ws) f ds).1) hL (fun l hl => (hws l hl).1) ws.length (Nat.le_refl _)
    have hlt := odB_lt (b := b.1) (w := (odT Rs n (wAt ws) f ds).2.2.1 + lft f (wAt ws) (odT Rs n (wAt ws) f ds).1 ws.length) hB.2.1 (by omega)
    have ih := od_try (C := C) hwf hn hP hP10 hL hm hff hw hs hws d k
    refine run_in (d := d + k + 6) rfl rfl ⟨rfl, rfl⟩ (sz_Orders_tryOrders_0 94 _ _ _ _ (by decide) (fun z => absurd hyes z) (fun z => absurd hyes z) (fun _ _ => ?_) (fun _ z => absurd h6 z) (fun _ z => absurd h6 z))
    refine run_in (d := d + k + 5) rfl rfl ⟨rfl, rfl⟩ (sz_Orders_worthLeft_0 94 _ (by decide) (lp_wl hS hff hL hI (by omega) hm (fun l hl => (hws l hl).1) (by omega) ?_ ws.length 0 (by omega)))
    refine sz_Orders_tryOrders_59 94 _ _ _ _ _ _ _ _ _ _ _ (by decide) (fun z => ?_) (fun z => ?_)
    · exact lp_odC hwf hn hP hP10 hL hm hff hw hs hws ih hdk hd hS hC hR hrow ws.length 0 I L b _ _ _ _ (by omega) odR.rf hI hB h
    · rw [hB.1, nI_add, hlt] at z
      refine h I L odR.rf hI ?_
      rw [odD_pr hwf.1 (k + 1) ds (by omega)]
      exact hB
end ODT
