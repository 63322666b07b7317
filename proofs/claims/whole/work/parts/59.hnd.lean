/-! ===== by hand ===== -/
abbrev vN (n : Nat) (x : Int32) : Prop := ¬ x < 0 ∧ x < nI n
def up1 (f : Nat → Int32) (i : Nat) (v : Int32) : Nat → Int32 := fun k => if k = i then v else f k
theorem up1_at {f : Nat → Int32} {i : Nat} {v : Int32} : up1 f i v i = v := if_pos rfl
theorem up1_ne {f : Nat → Int32} {i k : Nat} {v : Int32} (h : k ≠ i) : up1 f i v k = f k := if_neg h
theorem am_u198 {I : am_I} {i : Nat} {v : Int32} : am_u I 198 i v 198 = up1 (I 198) i v := funext fun k => by
  by_cases e : k = i
  · subst e; rw [am_u_at, up1_at]
  · rw [am_u_nk e, up1_ne e]
/-- what the class changes by hand lies in its state -/
def frN (I I' : am_I) : Prop := ∀ a, ¬ (94 ≤ a ∧ a ≤ 108) → I' a = I a
theorem frN.rf {I : am_I} : frN I I := fun _ _ => rfl
theorem frN.u {I I' : am_I} (h : frN I I') {a k : Nat} {v : Int32} (ha : 94 ≤ a ∧ a ≤ 108) : frN I (am_u I' a k v) := fun b z => by
  rw [am_u_ne (fun (e : b = a) => z (e ▸ ha))]; exact h b z
section HND
variable {d Lx : Nat} {ρ : List (Nat × Nat)} {Q : am_Q} {Rs : List (List (Nat × List Nat))}
theorem hRd_v {I : am_I} {r n : Nat} {f : Nat → Int32} {x : Int32} (hR : rdR I r f n) (hn : n ≤ 17) : hRd I r x ↔ vN n x := by
  unfold hRd vN
  rw [hR.2.1]
  refine ⟨fun z => ⟨z.1, z.2.1⟩, fun z => ⟨z.1, z.2, ?_⟩⟩
  obtain ⟨j, hj, rfl⟩ := ix_lt (by omega) z.1 z.2
  exact nI_lt (b := 17) (by omega) (by decide)
theorem hCa_v {I : am_I} {s n C m : Nat} {f : Nat → Int32} {x : Int32} (hS : stS I s f n C m) (hC : C ≤ 4) : hCa I s x ↔ vN C x := by
  unfold hCa vN
  rw [hS.2.1]
  refine ⟨fun z => ⟨z.1, z.2.1⟩, fun z => ⟨z.1, z.2, ?_⟩⟩
  obtain ⟨j, hj, rfl⟩ := ix_lt (by omega) z.1 z.2
  exact nI_lt (b := 4) (by omega) (by decide)
theorem hLo_v {I : am_I} {s n C m : Nat} {f : Nat → Int32} {x : Int32} (hS : stS I s f n C m) (hm : m ≤ 8) : hLo I s x ↔ vN m x := by
  unfold hLo vN
  rw [hS.2.2.1]
  refine ⟨fun z => ⟨z.1, z.2.1⟩, fun z => ⟨z.1, z.2, ?_⟩⟩
  obtain ⟨j, hj, rfl⟩ := ix_lt (by omega) z.1 z.2
  exact nI_lt (b := 8) (by omega) (by decide)
theorem nvN {n : Nat} : ¬ vN n (-1) := fun z => z.1 (by decide)
def pRd (f : Nat → Int32) (n : Nat) (r w : Int32) : Int32 := if vN n r ∧ ¬ w < 0 ∧ ¬ 4 < w then f (7 + 5 * r.toNatClampNeg + w.toNatClampNeg) else -1
def pCa (f : Nat → Int32) (C : Nat) (c w : Int32) : Int32 := if vN C c ∧ ¬ w < 0 ∧ ¬ 2 < w then f (92 + 3 * c.toNatClampNeg + w.toNatClampNeg) else -1
def pLo (f : Nat → Int32) (m : Nat) (l w : Int32) : Int32 := if vN m l ∧ ¬ w < 0 ∧ ¬ 4 < w then (if w < 4 then f (104 + 4 * l.toNatClampNeg + w.toNatClampNeg) else if f (104 + 4 * l.toNatClampNeg + 1) = f (104 + 4 * l.toNatClampNeg + 2) then 1 else 0) else -1
theorem sp_LL_road {I : am_I} {L : am_L} {f : Nat → Int32} {P n C m : Nat} {r w : Int32} (hS : stS I 94 f n C m) (hwS : wfS Rs f P n C m) (h : Q (some (.int (pRd f n r w))) I L (gg Lx ρ)) : am_run (d + 2) m_LL_road [.ref 12, .int r, .int w] I L (gg Lx ρ) Q := by
  obtain ⟨hn1, hn16, hwf⟩ := hwS.n
  have hv := hRd_v (x := r) hS.1 (by omega)
  unfold pRd at h
  have v17 : hRd I 95 r → vp_in r 17 := fun z => vin z.1 z.2.2 rfl (by decide)
  have key : ∀ (c : Nat), c ≤ 4 → hRd I 95 r → w = nI c → ∀ a, a = 96 + c → Q (some (.int (I a r.toNatClampNeg))) I L (gg Lx ρ) := by
    intro c hc z e a ha
    have z' := hv.mp z
    obtain ⟨j, hj, rfl⟩ := ix_lt (by omega) z'.1 z'.2
    obtain ⟨q1, q2, q3, q4, q5⟩ := hS.1.2.2.2.2 j hj
    subst e
    rw [if_pos ⟨z', nI_pos (by omega), nI_nlt (a := 4) (by omega) (by decide)⟩, nI_clamp (by omega), nI_clamp (by omega)] at h
    rw [nI_clamp (by omega)]
    match c, hc, ha, h with
    | 0, _, ha, h => subst ha; rw [q1]; exact h
    | 1, _, ha, h => subst ha; rw [q2]; exact h
    | 2, _, ha, h => subst ha; rw [q3]; exact h
    | 3, _, ha, h => subst ha; rw [q4]; exact h
    | 4, _, ha, h => subst ha; rw [q5]; exact h
  refine run_in rfl rfl ⟨rfl, rfl⟩ (sy_LL_road_0 _ _ (fun z _ => v17 z) (fun z e => key 0 (by omega) z e _ rfl) (fun z _ => v17 z) (fun z e => key 1 (by omega) z e _ rfl) (fun z _ => v17 z) (fun z e => key 2 (by omega) z e _ rfl) (fun z _ => v17 z) (fun z e => key 3 (by omega) z e _ rfl) (fun z _ => v17 z) (fun z e => key 4 (by omega) z e _ rfl) (fun _ z => ?_) (fun z => ?_))
  · rw [if_neg (fun y => z.elim y.2.1 y.2.2)] at h; exact h
  · rw [if_neg (fun y => z (hv.mpr y.1))] at h; exact h
theorem sp_LL_carter {I : am_I} {L : am_L} {f : Nat → Int32} {P n C m : Nat} {r w : Int32} (hS : stS I 94 f n C m) (hwS : wfS Rs f P n C m) (h : Q (some (.int (pCa f C r w))) I L (gg Lx ρ)) : am_run (d + 2) m_LL_carter [.ref 12, .int r, .int w] I L (gg Lx ρ) Q := by
  have hC := hwS.C
  have hv := hCa_v (x := r) hS hC.2
  unfold pCa at h
  have v4 : hCa I 94 r → vp_in r 4 := fun z => vin z.1 z.2.2 rfl (by decide)
  have key : ∀ (c : Nat), c ≤ 2 → hCa I 94 r → w = nI c → ∀ a, a = 101 + c → Q (some (.int (I a r.toNatClampNeg))) I L (gg Lx ρ) := by
    intro c hc z e a ha
    have z' := hv.mp z
    obtain ⟨j, hj, rfl⟩ := ix_lt (by omega) z'.1 z'.2
    obtain ⟨q1, q2, q3⟩ := hS.2.2.2.2.1 j hj
    subst e
    rw [if_pos ⟨z', nI_pos (by omega), nI_nlt (a := 2) (by omega) (by decide)⟩, nI_clamp (by omega), nI_clamp (by omega)] at h
    rw [nI_clamp (by omega)]
    match c, hc, ha, h with
    | 0, _, ha, h => subst ha; rw [q1]; exact h
    | 1, _, ha, h => subst ha; rw [q2]; exact h
    | 2, _, ha, h => subst ha; rw [q3]; exact h
  refine run_in rfl rfl ⟨rfl, rfl⟩ (sy_LL_carter_0 _ _ (fun z _ => v4 z) (fun z e => key 0 (by omega) z e _ rfl) (fun z _ => v4 z) (fun z e => key 1 (by omega) z e _ rfl) (fun z _ => v4 z) (fun z e => key 2 (by omega) z e _ rfl) (fun _ z => ?_) (fun z => ?_))
  · rw [if_neg (fun y => z.elim y.2.1 y.2.2)] at h; exact h
  · rw [if_neg (fun y => z (hv.mpr y.1))] at h; exact h
theorem sp_LL_load {I : am_I} {L : am_L} {f : Nat → Int32} {P n C m : Nat} {r w : Int32} (hS : stS I 94 f n C m) (hwS : wfS Rs f P n C m) (h : Q (some (.int (pLo f m r w))) I L (gg Lx ρ)) : am_run (d + 3) m_LL_load [.ref 12, .int r, .int w] I L (gg Lx ρ) Q := by
  have hm := hwS.m
  have hv := hLo_v (x := r) hS hm.2
  unfold pLo at h
  have v8 : hLo I 94 r → vp_in r 8 := fun z => vin z.1 z.2.2 rfl (by decide)
  have key : ∀ (c : Nat), c ≤ 3 → hLo I 94 r → w = nI c → ∀ a, a = 104 + c → Q (some (.int (I a r.toNatClampNeg))) I L (gg Lx ρ) := by
    intro c hc z e a ha
    have z' := hv.mp z
    obtain ⟨j, hj, rfl⟩ := ix_lt (by omega) z'.1 z'.2
    obtain ⟨q1, q2, q3, q4⟩ := hS.2.2.2.2.2.1 j hj
    subst e
    rw [if_pos ⟨z', nI_pos (by omega), nI_nlt (a := 4) (by omega) (by decide)⟩, if_pos (show nI c < 4 from nI_lt (b := 4) (by omega) (by decide)), nI_clamp (by omega), nI_clamp (by omega)] at h
    rw [nI_clamp (by omega)]
    match c, hc, ha, h with
    | 0, _, ha, h => subst ha; rw [q1]; exact h
    | 1, _, ha, h => subst ha; rw [q2]; exact h
    | 2, _, ha, h => subst ha; rw [q3]; exact h
    | 3, _, ha, h => subst ha; rw [q4]; exact h
  have k4 : hLo I 94 r → w = 4 → Q (some (.int (if f (104 + 4 * r.toNatClampNeg + 1) = f (104 + 4 * r.toNatClampNeg + 2) then 1 else 0))) I L (gg Lx ρ) ∧ (hTh I 94 r ↔ f (104 + 4 * r.toNatClampNeg + 1) = f (104 + 4 * r.toNatClampNeg + 2)) := by
    intro z e
    have z' := hv.mp z
    obtain ⟨j, hj, rfl⟩ := ix_lt (by omega) z'.1 z'.2
    obtain ⟨q1, q2, q3, q4⟩ := hS.2.2.2.2.2.1 j hj
    subst e
    rw [if_pos ⟨z', by decide, by decide⟩, if_neg (by decide)] at h
    refine ⟨h, ?_⟩
    unfold hTh
    rw [nI_clamp (by omega), q2, q3]
    exact ⟨fun y => y.2, fun y => ⟨z, y⟩⟩
  refine run_in rfl rfl ⟨rfl, rfl⟩ (sy_LL_load_0 _ _ (fun z _ => v8 z) (fun z e => key 0 (by omega) z e _ rfl) (fun z _ => v8 z) (fun z e => key 1 (by omega) z e _ rfl) (fun z _ => v8 z) (fun z e => key 2 (by omega) z e _ rfl) (fun z _ => v8 z) (fun z e => key 3 (by omega) z e _ rfl) (fun z e y => ?_) (fun z e y => ?_) (fun _ z => ?_) (fun z => ?_))
  · obtain ⟨k1, k2⟩ := k4 z e
    rw [if_neg (fun q => y (k2.mpr q))] at k1; exact k1
  · obtain ⟨k1, k2⟩ := k4 z e
    rw [if_pos (k2.mp y)] at k1; exact k1
  · rw [if_neg (fun y => z.elim y.2.1 y.2.2)] at h; exact h
  · rw [if_neg (fun y => z (hv.mpr y.1))] at h; exact h
theorem oC_n {j c : Nat} (h : 92 + 3 * j + c < 152) : oC (nI j) (nI c) := by
  unfold oC
  rw [show (92 : Int32) = nI 92 from rfl, show (3 : Int32) = nI 3 from rfl, pk_mul, nI_add, nI_add]
  exact vp_in_nI h (by decide)
theorem mC_n {I : am_I} {j c : Nat} (h : 92 + 3 * j + c < 152) : mC I (nI j) (nI c) = I 198 (92 + 3 * j + c) := by
  unfold mC
  rw [show (92 : Int32) = nI 92 from rfl, show (3 : Int32) = nI 3 from rfl, pk_mul, nI_add, nI_add, nI_clamp (by omega)]
theorem sp_Model_road {I : am_I} {L : am_L} {P n C m : Nat} {r w : Int32} (hwS : wfS Rs (I 198) P n C m) (h : Q (some (.int (pRd (I 198) n r w))) I L (gg Lx ρ)) : am_run (d + 2) m_Model_road [.ref 186, .int r, .int w] I L (gg Lx ρ) Q := by
  obtain ⟨hn1, hn16, hwf⟩ := hwS.n
  have hv : mRd I r ↔ vN n r := by unfold mRd vN; rw [hn1]
  have i1 : mIn (Int32.toInt64 w) 0 4 ↔ (¬ w < 0 ∧ ¬ 4 < w) := mIn_i (a := 0) (b := 4)
  unfold pRd at h
  refine run_in rfl rfl ⟨rfl, rfl⟩ (sy_Model_road_0 _ _ (fun z => ?_) (fun _ z => ?_) (fun z z2 => ?_) (fun z z2 => ?_))
  · rw [if_neg (fun y => z (hv.mpr y.1))] at h; exact h
  · rw [if_neg (fun y => z (i1.mpr y.2))] at h; exact h
  · obtain ⟨j, hj, rfl⟩ := ix_lt (by omega) (hv.mp z).1 (hv.mp z).2
    obtain ⟨c, c0, c4, rfl⟩ := nI_btw (a := 0) (b := 4) rfl rfl (by decide) (by decide) (i1.mp z2).1 (i1.mp z2).2
    exact oR_n (by omega)
  · rw [if_pos ⟨hv.mp z, i1.mp z2⟩] at h
    obtain ⟨j, hj, rfl⟩ := ix_lt (by omega) (hv.mp z).1 (hv.mp z).2
    obtain ⟨c, c0, c4, rfl⟩ := nI_btw (a := 0) (b := 4) rfl rfl (by decide) (by decide) (i1.mp z2).1 (i1.mp z2).2
    rw [nI_clamp (by omega), nI_clamp (by omega)] at h
    rw [mR_n (by omega)]; exact h
theorem sp_Model_carter {I : am_I} {L : am_L} {P n C m : Nat} {r w : Int32} (hwS : wfS Rs (I 198) P n C m) (h : Q (some (.int (pCa (I 198) C r w))) I L (gg Lx ρ)) : am_run (d + 2) m_Model_carter [.ref 186, .int r, .int w] I L (gg Lx ρ) Q := by
  have hC := hwS.C
  have hv : mCa I r ↔ vN C r := by unfold mCa vN; rw [hC.1]
  have i1 : mIn (Int32.toInt64 w) 0 2 ↔ (¬ w < 0 ∧ ¬ 2 < w) := mIn_i (a := 0) (b := 2)
  unfold pCa at h
  refine run_in rfl rfl ⟨rfl, rfl⟩ (sy_Model_carter_0 _ _ (fun z => ?_) (fun _ z => ?_) (fun z z2 => ?_) (fun z z2 => ?_))
  · rw [if_neg (fun y => z (hv.mpr y.1))] at h; exact h
  · rw [if_neg (fun y => z (i1.mpr y.2))] at h; exact h
  · obtain ⟨j, hj, rfl⟩ := ix_lt (by omega) (hv.mp z).1 (hv.mp z).2
    obtain ⟨c, c0, c4, rfl⟩ := nI_btw (a := 0) (b := 2) rfl rfl (by decide) (by decide) (i1.mp z2).1 (i1.mp z2).2
    exact oC_n (by omega)
  · rw [if_pos ⟨hv.mp z, i1.mp z2⟩] at h
    obtain ⟨j, hj, rfl⟩ := ix_lt (by omega) (hv.mp z).1 (hv.mp z).2
    obtain ⟨c, c0, c4, rfl⟩ := nI_btw (a := 0) (b := 2) rfl rfl (by decide) (by decide) (i1.mp z2).1 (i1.mp z2).2
    rw [nI_clamp (by omega), nI_clamp (by omega)] at h
    rw [mC_n (by omega)]; exact h
theorem sp_Model_load {I : am_I} {L : am_L} {P n C m : Nat} {r w : Int32} (hwS : wfS Rs (I 198) P n C m) (h : Q (some (.int (pLo (I 198) m r w))) I L (gg Lx ρ)) : am_run (d + 3) m_Model_load [.ref 186, .int r, .int w] I L (gg Lx ρ) Q := by
  have hm := hwS.m
  have hv : mLo I r ↔ vN m r := by unfold mLo vN; rw [hm.1]
  have i1 : mIn (Int32.toInt64 w) 0 4 ↔ (¬ w < 0 ∧ ¬ 4 < w) := mIn_i (a := 0) (b := 4)
  unfold pLo at h
  have k4 : mLo I r → (oL r 1 ∧ oL r 2) ∧ (mEnd I r ↔ I 198 (104 + 4 * r.toNatClampNeg + 1) = I 198 (104 + 4 * r.toNatClampNeg + 2)) := by
    intro z
    obtain ⟨j, hj, rfl⟩ := ix_lt (by omega) (hv.mp z).1 (hv.mp z).2
    refine ⟨⟨oL_n (c := 1) (by omega), oL_n (c := 2) (by omega)⟩, ?_⟩
    unfold mEnd
    rw [show mL I (nI j) 1 = I 198 (104 + 4 * j + 1) from mL_n (c := 1) (by omega), show mL I (nI j) 2 = I 198 (104 + 4 * j + 2) from mL_n (c := 2) (by omega), nI_clamp (by omega)]
  refine run_in rfl rfl ⟨rfl, rfl⟩ (sy_Model_load_0 _ _ (fun z => ?_) (fun z _ _ => (k4 z).1.1) (fun z _ _ => (k4 z).1.2) (fun z z2 z3 y => ?_) (fun z z2 z3 y => ?_) (fun z z2 z3 => ?_) (fun z z2 z3 => ?_) (fun _ z => ?_))
  · rw [if_neg (fun y => z (hv.mpr y.1))] at h; exact h
  · rw [if_pos ⟨hv.mp z, i1.mp z2⟩, if_neg z3, if_neg (fun q => y ((k4 z).2.mpr q))] at h; exact h
  · rw [if_pos ⟨hv.mp z, i1.mp z2⟩, if_neg z3, if_pos ((k4 z).2.mp y)] at h; exact h
  · obtain ⟨j, hj, rfl⟩ := ix_lt (by omega) (hv.mp z).1 (hv.mp z).2
    obtain ⟨c, c0, c4, rfl⟩ := nI_btw (a := 0) (b := 4) rfl rfl (by decide) (by decide) (i1.mp z2).1 (i1.mp z2).2
    exact oL_n (by omega)
  · rw [if_pos ⟨hv.mp z, i1.mp z2⟩, if_pos z3] at h
    obtain ⟨j, hj, rfl⟩ := ix_lt (by omega) (hv.mp z).1 (hv.mp z).2
    obtain ⟨c, c0, c4, rfl⟩ := nI_btw (a := 0) (b := 4) rfl rfl (by decide) (by decide) (i1.mp z2).1 (i1.mp z2).2
    rw [nI_clamp (by omega), nI_clamp (by omega)] at h
    rw [mL_n (by omega)]; exact h
  · rw [if_neg (fun y => z (i1.mpr y.2))] at h; exact h
end HND
