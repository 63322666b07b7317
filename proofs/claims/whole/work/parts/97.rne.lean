/-! ===== rule: the class reads it whole; the reference's rules grow ===== -/
section RNE
variable {d Lx : Nat} {ρ : List (Nat × Nat)} {Q : am_Q} {L : am_L} {B : Nat → Nat} {t : Nat}
theorem sp_RuleReader_read {I : am_I} (hT : tpC I B t) (hside : ∃ s, s ≤ 1 ∧ I 16 3 = nI s)
    (h1 : (pRl B t).1 = 0 → ∀ I', frG I I' → I' 13 3 = 0 → (∃ s, s ≤ 1 ∧ I' 16 3 = nI s) → rdC I' (pRl B t).2 → Q none I' L (gg Lx ρ))
    (h0 : ¬ (pRl B t).1 = 0 → ∀ I', frG I I' → I' 13 3 = nI (pRl B t).1 → (∃ s, s ≤ 1 ∧ I' 16 3 = nI s) → Q none I' L (gg Lx ρ)) : am_run (d + 28) m_RuleReader_read [.ref 16] I L (gg Lx ρ) Q := by
  have hB := fun i hi => (hT.2.2 i hi).2
  have ht := hT.2.1
  obtain ⟨s, hs, e3⟩ := hside
  refine run_in rfl rfl ⟨rfl, rfl⟩ (sy_RuleReader_read_0 (d := d + 26) ?_)
  have gJ : frG I (am_u (am_u (am_u (am_u (am_u I 13 2 0) 13 3 0) 20 0 0) 20 1 0) 16 4 0) := (((frG.o3 ((fr13.rf.u2).u3)).tr (frG.u (by omega))).tr (frG.u (by omega))).tr (frG.u (by omega))
  refine lp_rread (d := d) (I0 := I) hB ht 13 0 0 0 s [] _ _ (by omega) (by omega) (Nat.zero_le _) (gJ.T hT) ⟨⟨?_, ?_⟩, ?_, hs, ?_, fun k hk => ⟨?_, Nat.zero_le _, trivial⟩⟩ (by omega) (fun k => Nat.zero_le _) gJ h1 h0
  · rw [am_u_ne (by decide), am_u_ne (by decide), am_u_ne (by decide), am_u_nk (by decide), am_u_at]; rfl
  · rw [am_u_ne (by decide), am_u_ne (by decide), am_u_ne (by decide), am_u_at]; rfl
  · rw [am_u_nk (by decide), am_u_ne (by decide), am_u_ne (by decide), am_u_ne (by decide), am_u_ne (by decide)]; exact e3
  · rw [am_u_at]; rfl
  · show _ = nI 0
    rw [am_u_ne (by decide)]
    rcases (show k = 0 ∨ k = 1 by omega) with z | z
    · subst z; rw [am_u_nk (by decide), am_u_at]; rfl
    · subst z; rw [am_u_at]; rfl
theorem clsAt_c2 {I I' : am_I} {k n : Nat} (hk : k < n) (h8 : ∀ i, i < 400 * n → I' 188 i = I 188 i) (h9 : ∀ i, i < 36 * n → I' 190 i = I 190 i) : ∀ {R : List (Nat × List Nat)} {j : Nat}, j + R.length ≤ 12 → clsAt I k j R → clsAt I' k j R
  | [], _, _, _ => trivial
  | c :: R, j, hj, hr => by
    have hl : (c :: R).length = R.length + 1 := rfl
    obtain ⟨⟨b, h1, h2, h3, h4, h5⟩, h6⟩ := hr
    refine ⟨⟨b, h1, ?_, ?_, ?_, ?_⟩, clsAt_c2 hk h8 h9 (by omega) h6⟩
    · rw [h9 _ (by omega)]; exact h2
    · rw [h9 _ (by omega)]; exact h3
    · rw [h9 _ (by omega)]; exact h4
    · exact segAt_congr (fun i _ hi => h8 i (by omega)) h5
theorem RCm_sn {I I' : am_I} {Rs : List (List (Nat × List Nat))} {R : List (Nat × List Nat)} (hM : RCm I Rs) (hY : frY Rs.length I I') (h2 : I' 186 2 = nI (Rs.length + 1)) (h91 : I' 191 Rs.length = nI R.length) (hl : R.length ≤ 12) (hc : clsAt I' Rs.length 0 R) : RCm I' (Rs ++ [R]) := by
  refine ⟨by rw [h2, List.length_append]; rfl, fun k R' hk => ?_⟩
  by_cases z : k < Rs.length
  · rw [List.getElem?_append_left z] at hk
    obtain ⟨a1, a2, a3⟩ := hM.2 k R' hk
    exact ⟨(hY.2.2.2 k z).trans a1, a2, clsAt_c2 z hY.2.1 hY.2.2.1 (by omega) a3⟩
  · rw [List.getElem?_append_right (by omega)] at hk
    by_cases w : k = Rs.length
    · subst w
      rw [Nat.sub_self] at hk
      have : R = R' := Option.some.inj hk
      subst this
      exact ⟨h91, hl, hc⟩
    · have : k - Rs.length = (k - Rs.length - 1) + 1 := by omega
      rw [this] at hk
      exact absurd hk (by simp)
theorem RCm_Y {I I' : am_I} {Rs : List (List (Nat × List Nat))} (hM : RCm I Rs) (hY : frY Rs.length I I') (h2 : I' 186 2 = I 186 2) : RCm I' Rs := by
  refine ⟨h2.trans hM.1, fun k R' hk => ?_⟩
  have z : k < Rs.length := by
    apply Decidable.byContradiction
    intro q
    rw [List.getElem?_eq_none (by omega)] at hk
    exact absurd hk (by simp)
  obtain ⟨a1, a2, a3⟩ := hM.2 k R' hk
  exact ⟨(hY.2.2.2 k z).trans a1, a2, clsAt_c2 z hY.2.1 hY.2.2.1 (by omega) a3⟩
theorem wfRs_sn {Rs : List (List (Nat × List Nat))} {R : List (Nat × List Nat)} (hw : wfRs Rs) (hl : Rs.length < 6) (hR : ∀ c ∈ R, wfC c ∧ c.1 ≤ 1) : wfRs (Rs ++ [R]) := by
  refine ⟨by rw [List.length_append]; show Rs.length + 1 ≤ 6; omega, fun k R' hk => ?_⟩
  by_cases z : k < Rs.length
  · rw [List.getElem?_append_left z] at hk
    exact hw.2 k R' hk
  · rw [List.getElem?_append_right (by omega)] at hk
    by_cases w : k = Rs.length
    · subst w
      rw [Nat.sub_self] at hk
      have : R = R' := Option.some.inj hk
      subst this
      exact hR
    · have : k - Rs.length = (k - Rs.length - 1) + 1 := by omega
      rw [this] at hk
      exact absurd hk (by simp)
theorem pRl_g (hB : ∀ i, i < t → B i < 256) (ht : t ≤ 400) : (pRl B t).1 < 4000 ∧ ((pRl B t).1 = 0 → (pRl B t).2.length ≤ 12 ∧ ∀ x ∈ (pRl B t).2, wfC x ∧ x.1 ≤ 1) := rlL_g hB ht 13 0 0 0 [] (Nat.zero_le _) rfl (fun x hx => by simp at hx)
end RNE
