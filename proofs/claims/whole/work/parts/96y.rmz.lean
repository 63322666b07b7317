/-! ===== rule: the reference's clauses, kept ===== -/
def fl : List (Nat × List Nat) → List Nat
  | [] => []
  | c :: R => c.2 ++ fl R
theorem fl_sn (R : List (Nat × List Nat)) (c : Nat × List Nat) : fl (R ++ [c]) = fl R ++ c.2 := by
  induction R with
  | nil => show c.2 ++ [] = [] ++ c.2; rw [List.append_nil]; rfl
  | cons x R ih => show x.2 ++ fl (R ++ [c]) = x.2 ++ fl R ++ c.2; rw [ih, List.append_assoc]
def recs (I : am_I) (k : Nat) : Nat → Nat → List (Nat × List Nat) → Prop
  | _, _, [] => True
  | j, b, c :: R => I 190 (36 * k + 3 * j) = nI c.1 ∧ I 190 (36 * k + 3 * j + 1) = nI b ∧ I 190 (36 * k + 3 * j + 2) = nI (b + c.2.length) ∧ recs I k (j + 1) (b + c.2.length) R
theorem recs_c {I I' : am_I} {k : Nat} : ∀ {R : List (Nat × List Nat)} {j b : Nat}, (∀ i, i < 36 * k + 3 * (j + R.length) → I' 190 i = I 190 i) → recs I k j b R → recs I' k j b R
  | [], _, _, _, _ => trivial
  | c :: R, j, b, h, hr => by
    have hl : (c :: R).length = R.length + 1 := rfl
    refine ⟨?_, ?_, ?_, recs_c (fun i hi => h i (by omega)) hr.2.2.2⟩
    · rw [h _ (by omega)]; exact hr.1
    · rw [h _ (by omega)]; exact hr.2.1
    · rw [h _ (by omega)]; exact hr.2.2.1
theorem recs_sn {I : am_I} {k : Nat} {c : Nat × List Nat} : ∀ {R : List (Nat × List Nat)} {j b : Nat}, recs I k j b R → I 190 (36 * k + 3 * (j + R.length)) = nI c.1 → I 190 (36 * k + 3 * (j + R.length) + 1) = nI (b + (fl R).length) → I 190 (36 * k + 3 * (j + R.length) + 2) = nI (b + (fl R).length + c.2.length) → recs I k j b (R ++ [c])
  | [], j, b, _, h1, h2, h3 => ⟨h1, h2, h3, trivial⟩
  | x :: R, j, b, hr, h1, h2, h3 => by
    have e1 : j + (x :: R).length = j + 1 + R.length := by show j + (R.length + 1) = _; omega
    have e2 : b + (fl (x :: R)).length = b + x.2.length + (fl R).length := by show b + (x.2 ++ fl R).length = _; rw [List.length_append]; omega
    rw [e1] at h1 h2 h3
    rw [e2] at h2 h3
    exact ⟨hr.1, hr.2.1, hr.2.2.1, recs_sn hr.2.2.2 h1 h2 h3⟩
theorem recs_cls {I : am_I} {k : Nat} : ∀ {R : List (Nat × List Nat)} {j b : Nat}, recs I k j b R → segAt (I 188) (400 * k + b) (fl R) → b + (fl R).length ≤ 400 → clsAt I k j R
  | [], _, _, _, _, _ => trivial
  | c :: R, j, b, hr, hs, hl => by
    have e : fl (c :: R) = c.2 ++ fl R := rfl
    rw [e, List.length_append] at hl
    rw [e, segAt_app] at hs
    refine ⟨⟨b, by omega, hr.1, hr.2.1, hr.2.2.1, hs.1⟩, recs_cls hr.2.2.2 (by rw [← Nat.add_assoc]; exact hs.2) (by omega)⟩
def frX (tx : Nat) (I I' : am_I) : Prop := frm [188, 189, 190, 191, 195] [14, 15, 16, 18, 19, 20, 22] I I' ∧ (∀ i, i < 400 * tx → I' 188 i = I 188 i) ∧ (∀ i, i < 36 * tx → I' 190 i = I 190 i) ∧ (∀ k, k < tx → I' 191 k = I 191 k)
theorem frX.rf {tx : Nat} {I : am_I} : frX tx I I := ⟨frm.rf, fun _ _ => rfl, fun _ _ => rfl, fun _ _ => rfl⟩
theorem frX.tr {tx : Nat} {I I' I2 : am_I} (h : frX tx I I') (g : frX tx I' I2) : frX tx I I2 := ⟨h.1.tr g.1, fun i hi => (g.2.1 i hi).trans (h.2.1 i hi), fun i hi => (g.2.2.1 i hi).trans (h.2.2.1 i hi), fun i hi => (g.2.2.2 i hi).trans (h.2.2.2 i hi)⟩
theorem frX.T {tx : Nat} {I I' : am_I} {B : Nat → Nat} {t : Nat} (h : frX tx I I') (hT : tpM I B t) : tpM I' B t := tpM_fr h.1 (by decide) (by decide) hT
theorem frX.Z {tx : Nat} {I I' : am_I} (h : frZ tx I I') : frX tx I I' := ⟨frm.w h.1 (by decide) (by decide), h.2, fun i _ => by rw [h.1.1 190 (by decide) (by decide)], fun i _ => by rw [h.1.1 191 (by decide) (by decide)]⟩
theorem frX.F {tx : Nat} {F : List Nat} {I I' : am_I} (h : frF F I I') (hF : ∀ k ∈ F, k ∈ [14, 15, 16, 18, 19, 20, 22]) : frX tx I I' := ⟨frm.w h (fun _ z => absurd z (List.not_mem_nil)) hF, fun i _ => by rw [h.1 188 (by decide) (List.not_mem_nil)], fun i _ => by rw [h.1 190 (by decide) (List.not_mem_nil)], fun i _ => by rw [h.1 191 (by decide) (List.not_mem_nil)]⟩
theorem frX.u0 {tx k : Nat} {I : am_I} {v : Int32} (h : 36 * tx ≤ k) : frX tx I (am_u I 190 k v) := ⟨frm.rf.u (by decide) (by decide), fun i _ => by rw [am_u_ne (by decide)], fun i hi => am_u_nk (by omega), fun i _ => by rw [am_u_ne (by decide)]⟩
theorem frX.u1 {tx k : Nat} {I : am_I} {v : Int32} (h : tx ≤ k) : frX tx I (am_u I 191 k v) := ⟨frm.rf.u (by decide) (by decide), fun i _ => by rw [am_u_ne (by decide)], fun i _ => by rw [am_u_ne (by decide)], fun i hi => am_u_nk (by omega)⟩
/-- so many clauses are kept in the text -/
def kpM (I : am_I) (p v tx : Nat) (R : List (Nat × List Nat)) : Prop := pmR I p v tx (fl R) ∧ I 191 tx = nI R.length ∧ recs I tx 0 0 R
theorem pmR_90 {I I' : am_I} {p v tx : Nat} {T : List Nat} (h6 : I' 186 = I 186) (h8 : I' 188 = I 188) (h9 : I' 189 = I 189) (hs : pmR I p v tx T) : pmR I' p v tx T := pmR_st h8 h9 (fun k _ _ => by rw [h6]) hs
section RMZ
variable {d Lx : Nat} {ρ : List (Nat × Nat)} {Q : am_Q} {L : am_L} {B : Nat → Nat} {t tx : Nat}
theorem sp_isTest {I : am_I} {q v so : Nat} {w : List Nat} {R : List (Nat × List Nat)} (hT : tpM I B t) (hq : q ≤ t) (hlet : ∀ c ∈ w, 97 ≤ c ∧ c ≤ 122) (hW : isW B t q w = true) (hk : kpM I q v tx R) (hv : v ≤ 60) (hl : (fl R).length ≤ q) (hR : R.length < 12)
    (h1 : (testF B t (factP B t 10) (q + w.length) v).1 = 0 → ∀ I', frX tx I I' → kpM I' (testF B t (factP B t 10) (q + w.length) v).2.1 (testF B t (factP B t 10) (q + w.length) v).2.2.1 tx (R ++ [(so, (testF B t (factP B t 10) (q + w.length) v).2.2.2)]) → I' 186 20 = I 186 20 → Q (some (.int 1)) I' L (gg Lx ρ))
    (h0 : ¬ (testF B t (factP B t 10) (q + w.length) v).1 = 0 → ∀ I', frX tx I I' → I' 186 15 = nI (testF B t (factP B t 10) (q + w.length) v).1 → Q (some (.int 0)) I' L (gg Lx ρ)) : am_run (d + 10) m_Model_isTestHere [.ref 186, .int (nI so)] I L (gg Lx ρ) Q := by
  have hB := fun i hi => (hT.2.2 i hi).2
  have ht := hT.2.1
  obtain ⟨hs, h91, hrec⟩ := hk
  have htx := hs.2.2.1
  have hq2 : q + w.length ≤ t := isW_le hq hW
  have hgt := testF_g (B := B) ht (factP_g hB ht 10) (v := v) hq2
  refine run_in rfl rfl ⟨rfl, rfl⟩ (sz_Model_isTestHere_0 _ ?_)
  refine sp_mPass (d := d + 7) hT hq hlet hW hs.1 (fun I1 f1 c1 => ?_)
  have hT1 := tpM_fr f1 (by decide) (by decide) hT
  have s1 := pmR_F f1 (by decide) c1 hs
  have e17 : I1 186 17 = nI tx := s1.2.1
  have e91 : I1 191 tx = nI R.length := by rw [f1.1 191 (by decide) (List.not_mem_nil)]; exact h91
  have e89 : I1 189 tx = nI (fl R).length := s1.2.2.2.2.1
  have rec1 : recs I1 tx 0 0 R := recs_c (fun i _ => by rw [f1.1 190 (by decide) (List.not_mem_nil)]) hrec
  have eat : (36 : Int32) * nI tx + 3 * nI R.length = nI (36 * tx + 3 * R.length) := k36 tx R.length
  have ea1 : nI (36 * tx + 3 * R.length) + 1 = nI (36 * tx + 3 * R.length + 1) := nI_add _ 1
  have ea2 : nI (36 * tx + 3 * R.length) + 2 = nI (36 * tx + 3 * R.length + 2) := nI_add _ 2
  refine sz_Model_isTestHere_4 _ _ ?_ ?_ ?_ ?_ ?_
  · rw [e17]; exact vp_in_nI (by omega) (by decide)
  · rw [e17, nI_clamp (by omega), e91, eat]; exact vp_in_nI (by omega) (by decide)
  · rw [e17]; exact vp_in_nI (by omega) (by decide)
  · rw [e17, nI_clamp (by omega), e91, eat, ea1]; exact vp_in_nI (by omega) (by decide)
  · rw [e17, nI_clamp (by omega), e91, eat, ea1, nI_clamp (by omega), nI_clamp (by omega), e89]
    have x2 : frX tx I (am_u (am_u I1 190 (36 * tx + 3 * R.length) (nI so)) 190 (36 * tx + 3 * R.length + 1) (nI (fl R).length)) := ((frX.F f1 (by decide)).tr (frX.u0 (by omega))).tr (frX.u0 (by omega))
    have s2 : pmR (am_u (am_u I1 190 (36 * tx + 3 * R.length) (nI so)) 190 (36 * tx + 3 * R.length + 1) (nI (fl R).length)) (q + w.length) v tx (fl R) := pmR_90 (by rw [am_u_ne (by decide), am_u_ne (by decide)]) (by rw [am_u_ne (by decide), am_u_ne (by decide)]) (by rw [am_u_ne (by decide), am_u_ne (by decide)]) s1
    refine sp_tested (d := d) (x2.T hT) hq2 s2 hv (by omega) (fun z I3 g3 s3 => ?_) (fun z I3 g3 e3 => ?_)
    · obtain ⟨q1, q2, q3, q4, q5, q6⟩ := hgt.2 z
      have i17 : I3 186 17 = nI tx := s3.2.1
      have i89 : I3 189 tx = nI ((fl R).length + (testF B t (factP B t 10) (q + w.length) v).2.2.2.length) := by rw [s3.2.2.2.2.1, List.length_append]
      have i90 : I3 190 = am_u (am_u I1 190 (36 * tx + 3 * R.length) (nI so)) 190 (36 * tx + 3 * R.length + 1) (nI (fl R).length) 190 := g3.1.1 190 (by decide) (by decide)
      have i91 : I3 191 tx = nI R.length := by rw [g3.1.1 191 (by decide) (by decide), am_u_ne (by decide), am_u_ne (by decide)]; exact e91
      refine sz_Model_isTestHere_52 _ _ _ (fun _ => ?_) (fun _ => ?_) (fun _ => ?_) (fun _ => ?_) (fun q => absurd q (by decide))
      · rw [i17]; exact vp_in_nI (by omega) (by decide)
      · rw [ea2]; exact vp_in_nI (by omega) (by decide)
      · rw [i17]; exact vp_in_nI (by omega) (by decide)
      · rw [i17, nI_clamp (by omega), ea2, nI_clamp (by omega), i89, i91, nI_1]
        refine h1 z _ (((x2.tr (frX.Z g3)).tr (frX.u0 (by omega))).tr (frX.u1 (by omega))) ⟨?_, ?_, ?_⟩ ?_
        · rw [fl_sn]; exact pmR_90 (by rw [am_u_ne (by decide), am_u_ne (by decide)]) (by rw [am_u_ne (by decide), am_u_ne (by decide)]) (by rw [am_u_ne (by decide), am_u_ne (by decide)]) s3
        · rw [am_u_at, List.length_append]; rfl
        · refine recs_sn (recs_c (fun i hi => ?_) rec1) ?_ ?_ ?_
          · rw [Nat.zero_add] at hi
            rw [am_u_ne (by decide), am_u_nk (by omega), i90, am_u_nk (by omega), am_u_nk (by omega)]
          · rw [Nat.zero_add, am_u_ne (by decide), am_u_nk (by omega), i90, am_u_nk (by omega), am_u_at]
          · rw [Nat.zero_add, Nat.zero_add, am_u_ne (by decide), am_u_nk (by omega), i90, am_u_at]
          · rw [Nat.zero_add, Nat.zero_add, am_u_ne (by decide), am_u_at]
        · rw [am_u_ne (by decide), am_u_ne (by decide), g3.1.2 20 (by decide), am_u_ne (by decide), am_u_ne (by decide), f1.2 20 (by decide)]
    · exact sz_Model_isTestHere_52 _ _ _ (fun q => absurd rfl q) (fun q => absurd rfl q) (fun q => absurd rfl q) (fun q => absurd rfl q) (fun _ => h0 z I3 (x2.tr (frX.Z g3)) e3)
end RMZ
