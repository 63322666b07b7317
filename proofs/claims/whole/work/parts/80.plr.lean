/-! ===== plan of the reference: the least first ===== -/
/-- gone through, once one stands at day D and place i -/
def gP (st : PSt) (D i : Nat) : Nat → Bool := fun k => decide (k < st.1 ∧ (st.2.2.1 k < D ∨ (st.2.2.1 k = D ∧ k < i)))
/-- the first of the fewest days of those not gone through -/
def lsG (st : PSt) (G : Nat → Bool) : Nat → Option Nat
  | 0 => none
  | k + 1 => if G k = true then lsG st G k else match lsG st G k with
    | none => some k
    | some b => if st.2.2.1 k < st.2.2.1 b then some k else some b
theorem lsG_p {st : PSt} {G : Nat → Bool} : ∀ N, (lsG st G N = none → ∀ k, k < N → G k = true) ∧ ∀ b, lsG st G N = some b → b < N ∧ G b = false ∧ ∀ k, k < N → G k = false → st.2.2.1 b < st.2.2.1 k ∨ (st.2.2.1 b = st.2.2.1 k ∧ b ≤ k)
  | 0 => ⟨fun _ k hk => absurd hk (Nat.not_lt_zero _), fun b h => absurd h (by simp [lsG])⟩
  | N + 1 => by
    obtain ⟨i1, i2⟩ := lsG_p (st := st) (G := G) N
    unfold lsG
    cases eG : G N with
    | true =>
      rw [if_pos rfl]
      refine ⟨fun h k hk => ?_, fun b h => ?_⟩
      · by_cases z : k = N
        · rw [z]; exact eG
        · exact i1 h k (by omega)
      · obtain ⟨j1, j2, j3⟩ := i2 b h
        refine ⟨by omega, j2, fun k hk hg => ?_⟩
        by_cases z : k = N
        · rw [z, eG] at hg; exact absurd hg (by decide)
        · exact j3 k (by omega) hg
    | false =>
      rw [if_neg (by decide)]
      cases e1 : lsG st G N with
      | none =>
        refine ⟨fun h => absurd h (by simp), fun b h => ?_⟩
        have h : N = b := Option.some.inj h
        subst h
        refine ⟨by omega, eG, fun k hk hg => ?_⟩
        by_cases z : k = N
        · rw [z]; exact Or.inr ⟨rfl, Nat.le_refl _⟩
        · rw [i1 e1 k (by omega)] at hg; exact absurd hg (by decide)
      | some c =>
        obtain ⟨j1, j2, j3⟩ := i2 c e1
        show ((if st.2.2.1 N < st.2.2.1 c then some N else some c) = none → _) ∧ ∀ b, (if st.2.2.1 N < st.2.2.1 c then some N else some c) = some b → _
        by_cases z : st.2.2.1 N < st.2.2.1 c
        · rw [if_pos z]
          refine ⟨fun h => absurd h (by simp), fun b h => ?_⟩
          have h : N = b := Option.some.inj h
          subst h
          refine ⟨by omega, eG, fun k hk hg => ?_⟩
          by_cases y : k = N
          · rw [y]; exact Or.inr ⟨rfl, Nat.le_refl _⟩
          · have := j3 k (by omega) hg; omega
        · rw [if_neg z]
          refine ⟨fun h => absurd h (by simp), fun b h => ?_⟩
          have h : c = b := Option.some.inj h
          subst h
          refine ⟨by omega, j2, fun k hk hg => ?_⟩
          by_cases y : k = N
          · rw [y]; omega
          · exact j3 k (by omega) hg
section PLN
variable {Rs : List (List (Nat × List Nat))} {f : Nat → Int32} {n kd lies D0 goal : Nat}
theorem muP_9 {D i F : Nat} (h : muP D i < F) : ∃ F', F = F' + 1 := ⟨F - 1, by omega⟩
theorem plR_fuel (hwf : wfN f n) (hk : kd ≤ 7) : ∀ F F' (st : PSt) D i, muP D i < F → muP D i < F' → (plW n st) → i ≤ st.1 → plR Rs f n kd lies D0 goal F st D i = plR Rs f n kd lies D0 goal F' st D i := by
  intro F
  induction F with
  | zero => intro F' st D i h; exact absurd h (Nat.not_lt_zero _)
  | succ F ih =>
    intro F' st D i h h' hW hi
    obtain ⟨F2, e⟩ := muP_9 h'
    subst e
    have h1000 := hW.1
    unfold plR
    by_cases hD : 9000 < D
    · rw [if_pos hD, if_pos hD]
    · rw [if_neg hD, if_neg hD]
      by_cases hlt : i < st.1
      · rw [if_pos hlt, if_pos hlt]
        have m1 := muP_i (by omega) h
        have m2 := muP_i (by omega) h'
        by_cases e1 : st.2.2.1 i = D
        · rw [if_pos e1, if_pos e1]
          by_cases e2 : (st.2.1 i).2.1 = true ∧ (st.2.1 i).1 = goal
          · rw [if_pos e2, if_pos e2]
          · rw [if_neg e2, if_neg e2]
            by_cases e3 : (plGo Rs f n kd lies D0 (st.2.1 i) D n st).2.2.2 = true
            · rw [if_pos e3, if_pos e3]
            · rw [if_neg e3, if_neg e3]
              have hX := plGo_x (Rs := Rs) (kd := kd) (lies := lies) (D0 := D0) (D := D) hwf hk hW (hW.2.1 i hlt).1 hlt (by have := (hW.2.1 i hlt).2; omega) n (Nat.le_refl _)
              exact ih F2 _ D (i + 1) m1 m2 hX.1 (by have := hX.2.1; omega)
        · rw [if_neg e1, if_neg e1]
          exact ih F2 st D (i + 1) m1 m2 hW (by omega)
      · rw [if_neg hlt, if_neg hlt]
        exact ih F2 st (D + 1) 0 (muP_D (by omega) (by omega) h) (muP_D (by omega) (by omega) h') hW (Nat.zero_le _)
/-- nothing is left -/
theorem plR_all {st : PSt} {F D i : Nat} (hwf : wfN f n) (hk : kd ≤ 7) (hF : muP D i < F) (hW : plW n st) (hi : i ≤ st.1) (hD : D ≤ 9000) (h : ∀ k, k < st.1 → gP st D i k = true) : plR Rs f n kd lies D0 goal F st D i = -2 := by
  have h1000 := hW.1
  have hle : ∀ k, k < st.1 → st.2.2.1 k < D ∨ (st.2.2.1 k = D ∧ k < i) := fun k hk => (of_decide_eq_true (h k hk)).2
  have key : ∀ q j, j + q = st.1 → i ≤ j → ∀ F, muP D j < F → plR Rs f n kd lies D0 goal F st D j = -2 := by
    intro q
    induction q with
    | zero =>
      intro j e hj F hF
      obtain ⟨F2, e2⟩ := muP_9 hF
      subst e2
      unfold plR
      rw [if_neg (by omega), if_neg (by omega)]
      exact plR_none F2 (D + 1) 0 (fun k hk => by have := hle k hk; omega)
    | succ q ih =>
      intro j e hj F hF
      obtain ⟨F2, e2⟩ := muP_9 hF
      subst e2
      unfold plR
      rw [if_neg (by omega), if_pos (by omega), if_neg (by have := hle j (by omega); omega)]
      exact ih (j + 1) (by omega) (by omega) F2 (muP_i (by omega) hF)
  exact key (st.1 - i) i (by omega) (Nat.le_refl _) F hF
/-- on to the next one -/
theorem plR_next {st : PSt} {j : Nat} (hwf : wfN f n) (hk : kd ≤ 7) (hW : plW n st) (hj : j < st.1) : ∀ F F' D i, muP D i < F → muP (st.2.2.1 j) j < F' → i ≤ st.1 → gP st D i j = false → (∀ k, k < st.1 → gP st D i k = false → st.2.2.1 j < st.2.2.1 k ∨ (st.2.2.1 j = st.2.2.1 k ∧ j ≤ k)) → plR Rs f n kd lies D0 goal F st D i = plR Rs f n kd lies D0 goal F' st (st.2.2.1 j) j := by
  have h1000 := hW.1
  have hdj := (hW.2.1 j hj).2
  intro F
  induction F with
  | zero => intro F' D i h; exact absurd h (Nat.not_lt_zero _)
  | succ F ih =>
    intro F' D i h h' hi hg hmin
    have hgj : ¬ (st.2.2.1 j < D ∨ (st.2.2.1 j = D ∧ j < i)) := fun q => of_decide_eq_false hg ⟨hj, q⟩
    by_cases hlt : i < st.1
    · by_cases e1 : st.2.2.1 i = D
      · have hgi : gP st D i i = false := decide_eq_false (fun q => by omega)
        have := hmin i hlt hgi
        have e2 : j = i := by omega
        subst e2
        rw [e1]
        rw [e1] at h'
        exact plR_fuel hwf hk (F + 1) F' st D j h h' hW hi
      · have hG : ∀ k, gP st D (i + 1) k = gP st D i k := fun k => by
          unfold gP
          rw [decide_eq_decide]
          refine ⟨fun q => ⟨q.1, ?_⟩, fun q => ⟨q.1, by omega⟩⟩
          rcases q.2 with y | y
          · exact Or.inl y
          · refine Or.inr ⟨y.1, ?_⟩
            have : k ≠ i := fun z => e1 (by rw [← z]; exact y.1)
            omega
        have step : plR Rs f n kd lies D0 goal (F + 1) st D i = plR Rs f n kd lies D0 goal F st D (i + 1) := by
          show (if 9000 < D then (-2 : Int32) else if i < st.1 then (if st.2.2.1 i = D then _ else plR Rs f n kd lies D0 goal F st D (i + 1)) else _) = _
          rw [if_neg (by omega), if_pos hlt, if_neg e1]
        rw [step]
        exact ih F' D (i + 1) (muP_i (by omega) h) h' (by omega) (by rw [hG]; exact hg) (fun k hk q => hmin k hk (by rw [← hG]; exact q))
    · have hG : ∀ k, k < st.1 → (gP st (D + 1) 0 k = false ↔ gP st D i k = false) := fun k hk => by
        unfold gP
        rw [decide_eq_false_iff_not, decide_eq_false_iff_not]
        constructor
        · intro q y; exact q ⟨hk, by omega⟩
        · intro q y; exact q ⟨hk, by omega⟩
      have step : plR Rs f n kd lies D0 goal (F + 1) st D i = plR Rs f n kd lies D0 goal F st (D + 1) 0 := by
        show (if 9000 < D then (-2 : Int32) else if i < st.1 then _ else plR Rs f n kd lies D0 goal F st (D + 1) 0) = _
        rw [if_neg (by omega), if_neg hlt]
      rw [step]
      exact ih F' (D + 1) 0 (muP_D (by omega) (by omega) h) h' (Nat.zero_le _) ((hG j hj).mpr hg) (fun k hk q => hmin k hk ((hG k hk).mp q))
end PLN
