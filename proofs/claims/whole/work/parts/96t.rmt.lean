/-! ===== rule: the reference compares; its stack ===== -/
section RMT
variable {d Lx : Nat} {ρ : List (Nat × Nat)} {Q : am_Q}
theorem sp_mcmp {I : am_I} {L : am_L} {B : Nat → Nat} {t p v tx : Nat} {T : List Nat} (hT : tpM I B t) (hp : p ≤ t) (hs : pmR I p v tx T) (hv : v ≤ 60) (hl : T.length ≤ p)
    (h1 : (cmpP B t p v).1 = 0 → ∀ I', frV tx I I' → pmR I' (cmpP B t p v).2.1 (cmpP B t p v).2.2.1 tx (T ++ (cmpP B t p v).2.2.2) → Q (some (.int 1)) I' L (gg Lx ρ))
    (h0 : ¬ (cmpP B t p v).1 = 0 → ∀ I', frV tx I I' → I' 186 15 = nI (cmpP B t p v).1 → Q (some (.int 0)) I' L (gg Lx ρ)) : am_run (d + 7) m_Model_compare [.ref 186] I L (gg Lx ρ) Q := by
  have hB := fun i hi => (hT.2.2 i hi).2
  have ht := hT.2.1
  have g := sumP_g hB ht (v := v) hp
  refine run_in rfl rfl ⟨rfl, rfl⟩ (sy_Model_compare_0 (d := d + 5) ?_)
  refine sp_msum (d := d) hT hp hs hv hl (fun z I1 f1 s1 => ?_) (fun z I1 f1 e1 => ?_)
  · obtain ⟨g1, g2, g3, g4, g5, g6⟩ := g.2 z
    have sg := sgnP_g (B := B) (v := (sumP B t p v).2.2.1) ht g2
    have hk := sk_le (B := B) g2
    refine sy_Model_compare_4 (d := d + 5) _ _ _ _ _ (fun _ => ?_) (fun k => absurd k (by decide))
    have hT1 := f1.T hT
    refine sp_see (d := d + 5) hT1 g2 s1.1 (fun I2 f2 c2 => ?_)
    have hT2 := tpM_fr f2 (by decide) (by decide) hT1
    have s2 := pmR_F f2 (by decide) c2 s1
    have v2 : frV tx I I2 := f1.tr (frV.F f2 (by decide))
    have fin : ∀ (q' xx : Nat) (x3 : Int32), q' ≤ t → sgnP B t (sumP B t p v).2.1 (sumP B t p v).2.2.1 = (mk3 (sumP B t p v).2.2.1 (sk B t (sumP B t p v).2.1), q', (sumP B t p v).2.2.1 + 1, 6 + xx) → (∀ I3, am_run (d + 6) m_Model_sum [.ref 186] I3 L (gg Lx ρ) (fun r I' L' G' => am_W am_all (am_run (d + 6)) e_Model_compare Q 158 [.ref 186, .int (pk B t (sumP B t p v).2.1), .int (nI (sk B t (sumP B t p v).2.1)), .int x3, .int (nI xx)] (r.toList ++ ([] : List Value)) I' L' G' 0 0) → am_W am_all (am_run (d + 6)) e_Model_compare Q 110 [.ref 186, .int (pk B t (sumP B t p v).2.1), .int (nI (sk B t (sumP B t p v).2.1)), .int x3, .null] [.int 1] I3 L (gg Lx ρ) 0 0) → am_run (d + 6) m_Model_makes [.ref 186, .int (nI (sk B t (sumP B t p v).2.1))] (am_u I2 186 14 (nI q')) L (gg Lx ρ) (fun r I' L' G' => am_W am_all (am_run (d + 6)) e_Model_compare Q 110 [.ref 186, .int (pk B t (sumP B t p v).2.1), .int (nI (sk B t (sumP B t p v).2.1)), .int x3, .null] (r.toList ++ ([] : List Value)) I' L' G' 0 0) := by
      intro q' xx x3 hq' e disp
      have sgt := sg.2
      have sg1 := sg.1
      rw [e] at sgt sg1
      have e1 : (sgnP B t (sumP B t p v).2.1 (sumP B t p v).2.2.1).1 = mk3 (sumP B t p v).2.2.1 (sk B t (sumP B t p v).2.1) := by rw [e]
      have e2 : (sgnP B t (sumP B t p v).2.1 (sumP B t p v).2.2.1).2.1 = q' := by rw [e]
      have e3 : (sgnP B t (sumP B t p v).2.1 (sumP B t p v).2.2.1).2.2.1 = (sumP B t p v).2.2.1 + 1 := by rw [e]
      have e4 : (sgnP B t (sumP B t p v).2.1 (sumP B t p v).2.2.1).2.2.2 = 6 + xx := by rw [e]
      refine sp_makes (d := d + 4) (mvM s2) g5 (fun k I3 g3 s3 _ => ?_) (fun k I3 g3 e3' => ?_)
      · obtain ⟨k1, k2, k3, k4, k5, k6⟩ := sgt k
        have k1 : (sumP B t p v).2.1 < q' := k1
        have k6 : 6 + xx ≤ 10 := k6
        have r := sumP_g hB ht (v := (sumP B t p v).2.2.1 + 1) hq'
        have v3 := (v2.tr frV.m).tr g3
        refine disp I3 ?_
        refine sp_msum (d := d) (v3.T hT) hq' s3 (by omega) (by rw [List.length_append]; omega) (fun x I4 f4 s4 => ?_) (fun x I4 f4 e4' => ?_)
        · obtain ⟨r1, r2, r3, r4, r5, r6⟩ := r.2 x
          have es : cmpP B t p v = (0, (sumP B t q' ((sumP B t p v).2.2.1 + 1)).2.1, (sumP B t q' ((sumP B t p v).2.2.1 + 1)).2.2.1, (sumP B t p v).2.2.2 ++ (sumP B t q' ((sumP B t p v).2.2.1 + 1)).2.2.2 ++ [6 + xx]) := by
            unfold cmpP bnd; rw [if_pos z]; dsimp only; rw [if_pos (e1.trans k), e2, e3, e4, if_pos x]
          rw [es] at h1
          have hl4 : (T ++ (sumP B t p v).2.2.2 ++ (sumP B t q' ((sumP B t p v).2.2.1 + 1)).2.2.2).length < 400 := by simp only [List.length_append]; omega
          have o := put_o s4 hl4
          have ex : (6 : Int32) + nI xx + 16 * 0 = nI (6 + xx) := by show (6 : Int32) + nI xx + 0 = _; rw [nI_add0]; exact nI_add 6 xx
          have pw := put_ok s4 hl4 ex
          refine sy_Model_compare_158 (d := d + 5) _ _ _ _ _ (fun _ => o.1) (fun _ => o.2) (fun _ => h1 rfl _ ((v3.tr f4).tr pw.2) ?_) (fun q => absurd q (by decide))
          have sp := pw.1
          rw [List.append_assoc, List.append_assoc, ← List.append_assoc (sumP B t p v).2.2.2] at sp
          exact sp
        · have es : cmpP B t p v = bad (sumP B t q' ((sumP B t p v).2.2.1 + 1)).1 := by
            unfold cmpP bnd; rw [if_pos z]; dsimp only; rw [if_pos (e1.trans k), e2, e3, if_neg x]
          rw [es] at h0
          exact sy_Model_compare_158 (d := d + 5) _ _ _ _ _ (fun q => absurd rfl q) (fun q => absurd rfl q) (fun q => absurd rfl q) (fun _ => h0 x I4 (v3.tr f4) e4')
      · have es : cmpP B t p v = bad (mk3 (sumP B t p v).2.2.1 (sk B t (sumP B t p v).2.1)) := by
          unfold cmpP bnd; rw [if_pos z]; dsimp only; rw [if_neg (by rw [e1]; exact k), e1]
        rw [es] at h0
        exact sy_Model_compare_110 (d := d + 5) _ _ _ _ _ (fun q => absurd rfl q) (fun q => absurd rfl q) (fun q => absurd rfl q) (fun q => absurd rfl q) (fun q => absurd rfl q) (fun _ => h0 k I3 ((v2.tr frV.m).tr g3) e3')
    have eq1 : nI (sk B t (sumP B t p v).2.1) + 1 = nI (sk B t (sumP B t p v).2.1 + 1) := nI_1 _
    have eq2 : nI (sk B t (sumP B t p v).2.1 + 1) + 1 = nI (sk B t (sumP B t p v).2.1 + 2) := nI_1 _
    have no : ¬ nI (sk B t (sumP B t p v).2.1 + 1) < I2 186 1 → eqs B t (sk B t (sumP B t p v).2.1) = false := by
      intro k; rw [hT2.1] at k
      exact decide_eq_false (fun q => k (nI_lt q.1 (by omega)))
    have ye : nI (sk B t (sumP B t p v).2.1 + 1) < I2 186 1 → sk B t (sumP B t p v).2.1 + 1 < t := by
      intro k; rw [hT2.1] at k
      exact Decidable.byContradiction fun q => nI_nlt (by omega) (by omega) k
    have eb : nI (sk B t (sumP B t p v).2.1 + 1) < I2 186 1 → (I2 187 (nI (sk B t (sumP B t p v).2.1 + 1)).toNatClampNeg = 61 ↔ eqs B t (sk B t (sumP B t p v).2.1) = true) := by
      intro k
      have h := ye k
      have a := sB_at hT2 h 61 (by decide)
      exact ⟨fun q => decide_eq_true ⟨h, a.mp q⟩, fun q => a.mpr (of_decide_eq_true q).2⟩
    have nf : ∀ {b : Bool}, ¬ b = true → b = false := fun {b} k => by cases b with | false => rfl | true => exact absurd rfl k
    have no60 : ∀ {a b : Int32} {P : Prop}, a = 60 → b = a → b = 61 → P := fun h1 h2 h3 => absurd (h1.symm.trans (h2.symm.trans h3)) (by decide)
    refine sy_Model_compare_13 (d := d + 5) _ _ _ _ _ ?_ ?_ ?_ ?_ ?_ ?_ ?_ ?_ ?_ ?_ ?_
    · intro a b; exact absurd (a.symm.trans b) (by decide)
    · intro a b k; rw [c2.1, eq1] at *
      have hlt := pkc_lt a (by decide)
      have e := no k
      refine fin _ 0 0 (by omega) (by unfold sgnP; rw [if_pos a, e]; rfl) (fun I3 H => ?_)
      exact sy_Model_compare_110 (d := d + 5) _ _ _ _ _ (fun _ q => absurd a q) (fun _ q => absurd a q) (fun _ q => absurd a q) (fun _ _ _ => H) (fun _ _ q => absurd rfl q) (fun q => absurd q (by decide))
    · intro a b k; rw [c2.1, eq1] at *
      have := ye k; exact vp_in_nI (by omega) (by decide)
    · intro a b k y; rw [c2.1, eq1] at *
      have hlt := pkc_lt a (by decide)
      have e := nf (fun q => y ((eb k).mpr q))
      refine fin _ 0 0 (by omega) (by unfold sgnP; rw [if_pos a, e]; rfl) (fun I3 H => ?_)
      exact sy_Model_compare_110 (d := d + 5) _ _ _ _ _ (fun _ q => absurd a q) (fun _ q => absurd a q) (fun _ q => absurd a q) (fun _ _ _ => H) (fun _ _ q => absurd rfl q) (fun q => absurd q (by decide))
    · intro a b k y; rw [c2.1, eq1] at *
      rw [am_u_uu, eq2]
      have hlt := ye k
      have e := (eb k).mp y
      refine fin _ 1 1 (by omega) (by unfold sgnP; rw [if_pos a, e]; rfl) (fun I3 H => ?_)
      exact sy_Model_compare_110 (d := d + 5) _ _ _ _ _ (fun _ q => absurd a q) (fun _ q => absurd a q) (fun _ q => absurd a q) (fun _ _ q => absurd q (by decide)) (fun _ _ _ => H) (fun q => absurd q (by decide))
    · intro a b; rw [c2.1, eq1] at *
      have hlt := pkc_lt b (by decide)
      refine fin _ 2 0 (by omega) (by unfold sgnP; rw [if_neg a, if_pos b]) (fun I3 H => ?_)
      exact sy_Model_compare_110 (d := d + 5) _ _ _ _ _ (fun _ _ q => absurd b q) (fun _ _ q => absurd b q) (fun _ _ _ => H) (fun _ q => absurd q a) (fun _ q => absurd q a) (fun q => absurd q (by decide))
    · intro a b c k; rw [c2.1, eq1] at *
      have hlt := pkc_lt c (by decide)
      have e := no k
      refine fin _ 4 0 (by omega) (by unfold sgnP; rw [if_neg a, if_neg b, if_pos c, e]; rfl) (fun I3 H => ?_)
      exact sy_Model_compare_110 (d := d + 5) _ _ _ _ _ (fun _ _ _ _ => H) (fun _ _ _ q => absurd rfl q) (fun _ _ q => absurd q b) (fun _ q => absurd q a) (fun _ q => absurd q a) (fun q => absurd q (by decide))
    · intro a b c k; rw [c2.1, eq1] at *
      have := ye k; exact vp_in_nI (by omega) (by decide)
    · intro a b c k y; rw [c2.1, eq1] at *
      have hlt := pkc_lt c (by decide)
      have e := nf (fun q => y ((eb k).mpr q))
      refine fin _ 4 0 (by omega) (by unfold sgnP; rw [if_neg a, if_neg b, if_pos c, e]; rfl) (fun I3 H => ?_)
      exact sy_Model_compare_110 (d := d + 5) _ _ _ _ _ (fun _ _ _ _ => H) (fun _ _ _ q => absurd rfl q) (fun _ _ q => absurd q b) (fun _ q => absurd q a) (fun _ q => absurd q a) (fun q => absurd q (by decide))
    · intro a b c k y; rw [c2.1, eq1] at *
      rw [am_u_uu, eq2]
      have hlt := ye k
      have e := (eb k).mp y
      refine fin _ 3 1 (by omega) (by unfold sgnP; rw [if_neg a, if_neg b, if_pos c, e]; rfl) (fun I3 H => ?_)
      exact sy_Model_compare_110 (d := d + 5) _ _ _ _ _ (fun _ _ _ q => absurd q (by decide)) (fun _ _ _ _ => H) (fun _ _ q => absurd q b) (fun _ q => absurd q a) (fun _ q => absurd q a) (fun q => absurd q (by decide))
    · intro a b c; rw [c2.1]
      have e : sgnP B t (sumP B t p v).2.1 (sumP B t p v).2.2.1 = (1 + 8 * sk B t (sumP B t p v).2.1, 0, 0, 0) := by unfold sgnP; rw [if_neg a, if_neg b, if_neg c]
      have en : ¬ (1 + 8 * sk B t (sumP B t p v).2.1) = 0 := by omega
      have es : cmpP B t p v = bad (1 + 8 * sk B t (sumP B t p v).2.1) := by
        unfold cmpP bnd; rw [if_pos z]; dsimp only; rw [e, if_neg en]
      rw [es] at h0
      have gg := mFail_n (q := sk B t (sumP B t p v).2.1) (w := 0) (by decide) c2
      exact h0 en _ (v2.tr (frV.F gg.1 (by decide))) gg.2.2
  · have es : cmpP B t p v = bad (sumP B t p v).1 := if_neg z
    rw [es] at h0
    exact sy_Model_compare_4 (d := d + 5) _ _ _ _ _ (fun k => absurd rfl k) (fun _ => h0 z I1 f1 e1)
end RMT
