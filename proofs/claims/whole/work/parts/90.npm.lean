/-! ===== net: the reference's clauses ===== -/
def frR (I I' : am_I) : Prop := frm [192, 193, 194] [7, 8, 9, 10, 14, 15, 16] I I'
theorem frR.rf {I : am_I} : frR I I := frm.rf
theorem frR.tr {I I' I2 : am_I} (h : frR I I') (g : frR I' I2) : frR I I2 := frm.tr h g
theorem frR.T {I I' : am_I} {B : Nat → Nat} {t : Nat} (h : frR I I') (hT : tpM I B t) : tpM I' B t := tpM_fr h (by decide) (by decide) hT
theorem frR.F {F : List Nat} {I I' : am_I} (h : frF F I I') (hF : ∀ k ∈ F, k ∈ [7, 8, 9, 10, 14, 15, 16]) : frR I I' := frm.w h (fun _ z => absurd z (List.not_mem_nil)) hF
def nsM (I : am_I) (s : NS) : Prop := I 186 7 = s.g 0 ∧ I 186 8 = nI s.n ∧ I 186 9 = nI s.C ∧ I 186 10 = nI s.m ∧ (∀ j, j < s.n → ∀ k, k < 4 → I 192 (4 * j + k) = s.g (7 + 5 * j + k)) ∧ (∀ c, c < s.C → I 193 c = s.g (92 + 3 * c)) ∧ (∀ k, k < 4 * s.m → I 194 k = s.g (104 + k))
theorem nsM_F {F : List Nat} {I I' : am_I} {s : NS} (h : frF F I I') (hF : 7 ∉ F ∧ 8 ∉ F ∧ 9 ∉ F ∧ 10 ∉ F) (hs : nsM I s) : nsM I' s := by
  obtain ⟨h1, h2, h3, h4, h5, h6, h7⟩ := hs
  refine ⟨?_, ?_, ?_, ?_, ?_, ?_, ?_⟩
  · rw [h.2 7 hF.1]; exact h1
  · rw [h.2 8 hF.2.1]; exact h2
  · rw [h.2 9 hF.2.2.1]; exact h3
  · rw [h.2 10 hF.2.2.2]; exact h4
  · rw [h.1 192 (by decide) (List.not_mem_nil)]; exact h5
  · rw [h.1 193 (by decide) (List.not_mem_nil)]; exact h6
  · rw [h.1 194 (by decide) (List.not_mem_nil)]; exact h7
theorem nm_sk {B : Nat → Nat} {t p : Nat} {lo hi un : Int32} (h : p ≤ t) (ht : t ≤ 400) : nm B t (sk B t p) lo hi un = nm B t p lo hi un := by
  unfold nm; rw [sk_id h ht]
theorem nm_u {B : Nat → Nat} {t p : Nat} {lo hi un : Int32} (hB : ∀ i, i < t → B i < 256) (ht : t ≤ 400) (hp : p ≤ t) : (nm B t p lo hi un).2 = (nm B t p lo hi (-1)).2 ∧ (¬ (nm B t p lo hi (-1)).1 = 0 → (nm B t p lo hi un).1 = (nm B t p lo hi (-1)).1) ∧ ((nm B t p lo hi (-1)).1 = 0 → nI (nm B t p lo hi (-1)).2.2 = un → (nm B t p lo hi un).1 = 1 + 8 * sk B t p + 1) ∧ ((nm B t p lo hi (-1)).1 = 0 → ¬ nI (nm B t p lo hi (-1)).2.2 = un → (nm B t p lo hi un).1 = 0) := by
  have hv := (nm_q (lo := lo) (hi := hi) (un := -1) hB ht hp).2.1
  unfold nm at hv ⊢
  by_cases z : sk B t p < t ∧ isD B (sk B t p) = true
  · rw [if_pos z] at hv
    simp only [if_pos z]
    have h1 : ¬ nI (nmL B t (sk B t p) 401 (sk B t p) 0).2 = -1 := nI_nm1 (Nat.lt_of_lt_of_le hv (by decide))
    refine ⟨trivial, fun q => ?_, fun q y => ?_, fun q y => ?_⟩
    · by_cases w : 5 < (nmL B t (sk B t p) 401 (sk B t p) 0).1 - sk B t p ∨ nI (nmL B t (sk B t p) 401 (sk B t p) 0).2 < lo ∨ hi < nI (nmL B t (sk B t p) 401 (sk B t p) 0).2
      · rw [if_pos (by rcases w with w | w | w; exact Or.inl w; exact Or.inr (Or.inl w); exact Or.inr (Or.inr (Or.inl w))), if_pos (by rcases w with w | w | w; exact Or.inl w; exact Or.inr (Or.inl w); exact Or.inr (Or.inr (Or.inl w)))]
      · exact absurd (if_neg (fun k => by rcases k with k | k | k | k; exact w (Or.inl k); exact w (Or.inr (Or.inl k)); exact w (Or.inr (Or.inr k)); exact h1 k)) q
    · rw [if_pos (Or.inr (Or.inr (Or.inr y)))]
    · refine if_neg (fun k => ?_)
      rcases k with k | k | k | k
      · rw [if_pos (Or.inl k)] at q; omega
      · rw [if_pos (Or.inr (Or.inl k))] at q; omega
      · rw [if_pos (Or.inr (Or.inr (Or.inl k)))] at q; omega
      · exact y k
  · simp only [if_neg z]
    refine ⟨trivial, fun q => trivial, fun q y => ?_, fun q y => ?_⟩
    · omega
    · omega
section NPM
variable {d Lx : Nat} {ρ : List (Nat × Nat)} {Q : am_Q}
theorem sp_areTwo {I : am_I} {L : am_L} {B : Nat → Nat} {t p b : Nat} {H x2 : Int32} (hT : tpM I B t) (hp : p ≤ t) (hc : mcu I p 0) (hH : I 186 7 = H) (hb : (¬ x2 = 0 → b + 1 < 64) ∧ (x2 = 0 → b + 1 < 32))
    (h1 : (q1 B t p (H - 1)).1 = 0 → (q2 B t p (H - 1)).1 = 0 → ∀ J, frF [14, 15, 16] I J → mcu J (q2 B t p (H - 1)).2.1 0 → Q (some (.int 1)) (am_u (am_u J (if x2 = 0 then 194 else 192) b (nI (q1 B t p (H - 1)).2.2)) (if x2 = 0 then 194 else 192) (b + 1) (nI (q2 B t p (H - 1)).2.2)) L (gg Lx ρ))
    (h0 : ¬ ff (q1 B t p (H - 1)).1 (q2 B t p (H - 1)).1 = 0 → ∀ I', frF [14, 15, 16] I I' → I' 186 15 = nI (ff (q1 B t p (H - 1)).1 (q2 B t p (H - 1)).1) → Q (some (.int 0)) I' L (gg Lx ρ)) : am_run (d + 3) m_Model_areTwoHere [.ref 186, .int (nI b), .int x2] I L (gg Lx ρ) Q := by
  have hB := fun i hi => (hT.2.2 i hi).2
  have ht := hT.2.1
  have a1 := q1_q (h := H - 1) hB ht hp
  have a2 := q2_q (h := H - 1) hB ht hp
  have hcl : (nI b).toNatClampNeg = b := nI_clamp (by by_cases z : x2 = 0 <;> have := hb.1 <;> have := hb.2 <;> simp_all <;> omega)
  have hcl1 : (nI b + 1).toNatClampNeg = b + 1 := by rw [nI_1]; exact nI_clamp (by by_cases z : x2 = 0 <;> have := hb.1 <;> have := hb.2 <;> simp_all <;> omega)
  refine run_in rfl rfl ⟨rfl, rfl⟩ (sy_Model_areTwoHere_0 _ _ ?_)
  rw [hH]
  refine sp_numberHere hT hp hc (fun z I1 f1 c1 n1 => ?_) (fun z I1 f1 n1 => ?_)
  · have z : (q1 B t p (H - 1)).1 = 0 := z
    have c1 : mcu I1 (q1 B t p (H - 1)).2.1 0 := c1
    have n1 : I1 186 16 = nI (q1 B t p (H - 1)).2.2 := n1
    have hT1 := tpM_fr f1 (by decide) (by decide) hT
    refine sy_Model_areTwoHere_11 _ _ _ _ _ (fun _ => ?_) (fun q => absurd q (by decide))
    rw [n1]
    refine sp_see hT1 a1.1 c1 (fun I2 f2 c2 => ?_)
    have hT2 := tpM_fr f2 (by decide) (by decide) hT1
    have f12 : frF [14, 15, 16] I I2 := f1.tr (f2.w (fun _ z => z) (by decide))
    refine sy_Model_areTwoHere_25 _ _ _ _ _ ?_
    have hH2 : I2 186 7 = H := by rw [f12.2 7 (by decide)]; exact hH
    rw [hH2, c2.1]
    have hu := nm_u (lo := 0) (hi := H - 1) (un := nI (q1 B t p (H - 1)).2.2) hB ht a1.1
    have es : nm B t (sk B t (q1 B t p (H - 1)).2.1) 0 (H - 1) (-1) = nm B t (q1 B t p (H - 1)).2.1 0 (H - 1) (-1) := nm_sk a1.1 ht
    refine sp_numberHere hT2 (sk_le a1.1).2 c2 (fun y I3 f3 c3 n3 => ?_) (fun y I3 f3 n3 => ?_)
    · rw [es] at y c3 n3
      have f13 : frF [14, 15, 16] I I3 := f12.tr f3
      have e2 : (q2 B t p (H - 1)).2 = (nm B t (q1 B t p (H - 1)).2.1 0 (H - 1) (-1)).2 := hu.1
      by_cases w : nI (q2 B t p (H - 1)).2.2 = nI (q1 B t p (H - 1)).2.2
      · have w' : nI (nm B t (q1 B t p (H - 1)).2.1 0 (H - 1) (-1)).2.2 = nI (q1 B t p (H - 1)).2.2 := by rw [← e2]; exact w
        have ef : (q2 B t p (H - 1)).1 = 1 + 8 * sk B t (q1 B t p (H - 1)).2.1 + 1 := hu.2.2.1 y w'
        rw [← e2] at n3
        refine sy_Model_areTwoHere_43 _ _ _ _ _ (fun _ q => absurd (n3.trans w) q) (fun _ q => absurd (n3.trans w) q) (fun _ q => absurd (n3.trans w) q) (fun _ q => absurd (n3.trans w) q) (fun _ q => absurd (n3.trans w) q) (fun _ q => absurd (n3.trans w) q) (fun _ _ => ?_) (fun q => absurd q (by decide))
        have g := mFail_n (q := sk B t (q1 B t p (H - 1)).2.1) (w := 1) (by decide) c3
        have e3 : ff (q1 B t p (H - 1)).1 (q2 B t p (H - 1)).1 = 1 + 8 * sk B t (q1 B t p (H - 1)).2.1 + 1 := by rw [z, ff0, ef]
        exact h0 (by rw [e3]; omega) _ (f13.tr (g.1.w (fun _ z => z) (by decide))) (by rw [e3]; exact g.2.2)
      · have w' : ¬ nI (nm B t (q1 B t p (H - 1)).2.1 0 (H - 1) (-1)).2.2 = nI (q1 B t p (H - 1)).2.2 := by rw [← e2]; exact w
        have ef : (q2 B t p (H - 1)).1 = 0 := hu.2.2.2 y w'
        rw [← e2] at n3 c3
        have h1 := h1 z ef I3 f13 c3
        refine sy_Model_areTwoHere_43 _ _ _ _ _ (fun _ _ q => ?_) (fun _ _ q => ?_) (fun _ _ q => ?_) (fun _ _ q => ?_) (fun _ _ q => ?_) (fun _ _ q => ?_) (fun _ q => absurd (n3.symm.trans q) w) (fun q => absurd q (by decide))
        · exact vp_in_nI (by have := hb.2 q; omega) (by decide)
        · rw [nI_1]; exact vp_in_nI (by have := hb.2 q; omega) (by decide)
        · rw [if_pos q] at h1
          rw [hcl, hcl1, n3]; exact h1
        · exact vp_in_nI (by have := hb.1 q; omega) (by decide)
        · rw [nI_1]; exact vp_in_nI (by have := hb.1 q; omega) (by decide)
        · rw [if_neg q] at h1
          rw [hcl, hcl1, n3]; exact h1
    · rw [es] at y n3
      have ef : (q2 B t p (H - 1)).1 = (nm B t (q1 B t p (H - 1)).2.1 0 (H - 1) (-1)).1 := hu.2.1 y
      have e3 : ff (q1 B t p (H - 1)).1 (q2 B t p (H - 1)).1 = (nm B t (q1 B t p (H - 1)).2.1 0 (H - 1) (-1)).1 := by rw [z, ff0, ef]
      refine sy_Model_areTwoHere_43 _ _ _ _ _ (fun q => absurd rfl q) (fun q => absurd rfl q) (fun q => absurd rfl q) (fun q => absurd rfl q) (fun q => absurd rfl q) (fun q => absurd rfl q) (fun q => absurd rfl q) (fun _ => ?_)
      exact h0 (by rw [e3]; exact y) I3 (f12.tr f3) (by rw [e3]; exact n3)
  · refine sy_Model_areTwoHere_11 _ _ _ _ _ (fun q => absurd rfl q) (fun _ => ?_)
    have z : ¬ (q1 B t p (H - 1)).1 = 0 := z
    have e3 : ff (q1 B t p (H - 1)).1 (q2 B t p (H - 1)).1 = (q1 B t p (H - 1)).1 := if_neg z
    exact h0 (by rw [e3]; exact z) I1 f1 (by rw [e3]; exact n1)
end NPM
