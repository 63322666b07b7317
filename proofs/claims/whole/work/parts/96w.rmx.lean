/-! ===== rule: the reference's facts, a whole test ===== -/
section RMX
variable {d Lx : Nat} {ρ : List (Nat × Nat)} {Q : am_Q} {L : am_L} {B : Nat → Nat} {t tx : Nat} {I0 : am_I}
theorem sp_opens {I : am_I} {p v x : Nat} {T st : List Nat} (hx : x = 11 ∨ x = 91) (hs : pmR I p v tx T) (hst : skR I st) (hd : dep st ≤ 10) (hl : st.length < 400)
    (h1 : dep st < 10 → ∀ I', frZ tx I I' → pmR I' p v tx T → skR I' (x :: st) → Q (some (.int 1)) I' L (gg Lx ρ))
    (h0 : ¬ dep st < 10 → ∀ I', frZ tx I I' → I' 186 15 = nI (1 + 8 * p + 2) → Q (some (.int 0)) I' L (gg Lx ρ)) : am_run (d + 2) m_Model_opens [.ref 186, .int (nI x)] I L (gg Lx ρ) Q := by
  refine run_in rfl rfl ⟨rfl, rfl⟩ (sy_Model_opens_0 (d := d) _ (fun _ => ?_) (fun z => ?_) (fun z => ?_))
  · rw [hst.1]; exact vp_in_nI hl (by decide)
  · rw [hst.2.2] at z
    have hd2 : dep st < 10 := by
      have : dep st ≠ 10 := fun k => z (by rw [k]; rfl)
      omega
    have eD : I 186 19 + 1 = nI (dep (x :: st)) := by
      rw [hst.2.2, nI_1]
      have : dep (x :: st) = dep st + 1 := by show (if x = 11 ∨ x = 91 then 1 else 0) + dep st = dep st + 1; rw [if_pos hx]; omega
      rw [this]
    rw [hst.1, nI_clamp (by omega), nI_1]
    refine h1 hd2 _ (((frZ.uf (by decide)).tr frZ.u5).tr (frZ.uf (by decide))) (pmR_st (by rw [am_u_ne (by decide), am_u_ne (by decide), am_u_ne (by decide)]) (by rw [am_u_ne (by decide), am_u_ne (by decide), am_u_ne (by decide)]) (fun k z1 z2 => by rw [am_u_nk z2, am_u_ne (by decide), am_u_nk z1]) hs) (push_ok hst eD)
  · rw [hst.2.2] at z
    have hd2 : dep st = 10 := (nI_eq (b := 10) (by omega) (by decide)).mp z
    have g := mFail_n (q := p) (w := 2) (by decide) hs.1
    rw [hs.1.1]
    exact h0 (by omega) _ (frZ.F g.1 (by decide)) g.2.2
theorem setl_len {k : Nat} : ∀ (st T : List Nat), (setl k st T).2.length + (setl k st T).1.length = T.length + st.length := by
  intro st
  induction st with
  | nil => intro T; rfl
  | cons x st ih =>
    intro T
    rw [setl]
    split
    · rfl
    · rw [ih, List.length_append]; show T.length + 1 + st.length = T.length + (st.length + 1); omega
theorem cf_stp {k : Nat} {inner : Option FT} (hT0 : tpM I0 B t) (hin : inner = none ↔ k = 0)
    (hf : ∀ f, inner = some f → CF d Lx ρ Q L B t tx I0 (k - 1) f ∧ ∀ p v, p ≤ t → gd t true p v (f p v)) : CF d Lx ρ Q L B t tx I0 k (stpF B t inner) := by
  intro p v T st I x x2 hp hT hs hst hdep hx hv hl g0 h1 h0
  have hB := fun i hi => (hT.2.2 i hi).2
  have ht := hT.2.1
  have hk := sk_le (B := B) hp
  have hid := sk_id (B := B) hp ht
  have fail : ∀ I', frZ tx I0 I' → ¬ (stpF B t inner p v).1 = 0 → I' 186 15 = nI (stpF B t inner p v).1 → am_W am_all (am_run (d + 8)) e_Model_tested Q 20 [.ref 186, .int 1, x2] [.int 0] I' L (gg Lx ρ) 0 0 := fun I' g' e' n' => sy_Model_tested_20 (d := d + 7) _ _ _ (fun q => absurd rfl q) (fun _ => h0 e' I' g' n')
  unfold Mf
  refine sz_Model_fact_2 _ _ (fun q => absurd q (by decide)) (fun _ => ?_)
  refine sp_see (d := d + 6) hT hp hs.1 (fun I1 f1 c1 => ?_)
  have hT1 := tpM_fr f1 (by decide) (by decide) hT
  refine sz_Model_fact_12 _ _ _ ?_
  refine sp_isWord (d := d + 5) (w := wNot) hT1 hk.2 (by decide) (by decide) k_Not c1 (fun I2 f2 c2 => ?_)
  rw [hid] at c2 ⊢
  have f12 := f1.tr f2
  have hT2 := tpM_fr f12 (by decide) (by decide) hT
  have s2 := pmR_F f12 (by decide) c2 hs
  have st2 := skR_F f12 (by decide) hst
  have g2 := g0.tr (frZ.F f12 (by decide))
  by_cases y1 : isW B t (sk B t p) wNot = true
  · have hq : sk B t p + 3 ≤ t := isW_le hk.2 y1
    refine sz_Model_fact_20 _ _ _ (fun z => absurd y1 (bI0 z)) (fun z => absurd y1 (bI0 z)) (fun _ => ?_)
    refine sp_opens (d := d + 5) (x := 11) (Or.inl rfl) s2 st2 (by omega) (by omega) (fun z I3 g3 s3 st3 => ?_) (fun z I3 g3 e3 => ?_)
    · cases inner with
      | none => exact absurd (hin.mp rfl) (by omega)
      | some f =>
        obtain ⟨hcf, hg⟩ := hf f rfl
        have hgf := hg (sk B t p + 3) v hq
        have es : stpF B t (some f) p v = bnd (f (sk B t p + 3) v) (fun p1 v1 o1 => (0, p1, v1, o1 ++ [11])) := by unfold stpF; rw [if_pos y1]
        rw [es] at h1 h0
        refine sz_Model_fact_29 _ _ _ (fun _ => ?_) (fun q => absurd q (by decide))
        refine sp_mPass (d := d + 5) (g3.T hT2) hk.2 (by decide) y1 s3.1 (fun I4 f4 c4 => ?_)
        refine sz_Model_fact_38 _ _ ?_
        have g4 := (g2.tr g3).tr (frZ.F f4 (by decide))
        refine hcf (sk B t p + 3) v T (11 :: st) I4 _ x2 hq (g4.T hT0) (pmR_F f4 (by decide) c4 s3) (skR_F f4 (by decide) st3) ?_ ?_ hv (by show T.length + (st.length + 1) ≤ _; omega) g4 (fun y I5 y2 g5 s5 st5 => ?_) (fun y I5 g5 e5 => ?_)
        · show (1 + dep st) + (k - 1) = 10
          have : ¬ k = 0 := fun q => by have := hin.mpr q; cases this
          omega
        · intro a ha
          rcases List.mem_cons.mp ha with q | q
          · subst q; decide
          · exact hx a q
        · have eb : bnd (f (sk B t p + 3) v) (fun p1 v1 o1 => (0, p1, v1, o1 ++ [11])) = (0, (f (sk B t p + 3) v).2.1, (f (sk B t p + 3) v).2.2.1, (f (sk B t p + 3) v).2.2.2 ++ [11]) := if_pos y
          rw [eb] at h1
          have e6 : setl 3 (11 :: st) (T ++ (f (sk B t p + 3) v).2.2.2) = setl 3 st (T ++ ((f (sk B t p + 3) v).2.2.2 ++ [11])) := by rw [setl, if_neg (by decide), List.append_assoc]
          rw [e6] at s5 st5
          exact h1 rfl I5 y2 g5 s5 st5
        · have eb : bnd (f (sk B t p + 3) v) (fun p1 v1 o1 => (0, p1, v1, o1 ++ [11])) = bad (f (sk B t p + 3) v).1 := if_neg y
          rw [eb] at h0
          exact h0 y I5 g5 e5
    · have : inner = none := hin.mpr (by omega)
      subst this
      have es : stpF B t none p v = bad (1 + 8 * sk B t p + 2) := by unfold stpF; rw [if_pos y1]
      rw [es] at fail
      exact sz_Model_fact_29 _ _ _ (fun q => absurd rfl q) (fun _ => fail I3 (g2.tr g3) (by show ¬ 1 + 8 * sk B t p + 2 = 0; omega) e3)
  · refine sz_Model_fact_20 _ _ _ (fun _ y2 => ?_) (fun _ y2 => ?_) (fun z => absurd (bI_f y1) z)
    · have es : stpF B t inner p v = cmpP B t (sk B t p) v := by unfold stpF; rw [if_neg y1, if_neg y2]
      rw [es] at h1 fail
      have hgc := cmpP_g hB ht (v := v) hk.2
      refine sz_Model_fact_2 _ _ (fun _ => ?_) (fun q => absurd rfl q)
      refine sp_mcmp (d := d) hT2 hk.2 s2 hv (by omega) (fun z I3 f3 s3 => ?_) (fun z I3 f3 e3 => ?_)
      · obtain ⟨q1, q2, q3, q4, q5, q6⟩ := hgc.2 z
        refine sz_Model_fact_79 _ _ _ ?_ (Or.inr rfl)
        refine sy_Model_tested_20 (d := d + 7) _ _ _ (fun _ => ?_) (fun q => absurd q (by decide))
        refine run_in (d := d + 7) rfl rfl ⟨rfl, rfl⟩ (sz_Model_closes_0 ?_)
        refine sp_settles (d := d + 5) (k := 3) (by decide) (by decide) (by omega) hx s3 (skR_V f3 st2) (by rw [List.length_append]; omega) (fun I4 g4 s4 st4 => ?_)
        exact h1 z I4 x2 ((g2.tr (frZ.V f3)).tr g4) s4 st4
      · exact sz_Model_fact_79 _ _ _ (fail I3 (g2.tr (frZ.V f3)) z e3) (Or.inl rfl)
    · have hlt := pkc_lt y2 (by decide)
      refine sp_opens (d := d + 5) (x := 91) (Or.inr rfl) s2 st2 (by omega) (by omega) (fun z I3 g3 s3 st3 => ?_) (fun z I3 g3 e3 => ?_)
      · cases inner with
        | none => exact absurd (hin.mp rfl) (by omega)
        | some f =>
          obtain ⟨hcf, hg⟩ := hf f rfl
          have hq : sk B t p + 1 ≤ t := by omega
          have hgf := hg (sk B t p + 1) v hq
          have k0 : ¬ k = 0 := fun q => by have := hin.mpr q; cases this
          have es : stpF B t (some f) p v = bnd (testF B t f (sk B t p + 1) v) (fun p1 v1 o1 => if pk B t p1 = 93 then (0, sk B t p1 + 1, v1, o1) else bad (1 + 8 * sk B t p1)) := by unfold stpF; rw [if_neg y1, if_pos y2]
          rw [es] at h1 h0
          have hd91 : dep (91 :: st) + (k - 1) = 10 := by show (1 + dep st) + (k - 1) = 10; omega
          have hx91 : ∀ x ∈ 91 :: st, x < 200 := by
            intro a ha
            rcases List.mem_cons.mp ha with q | q
            · subst q; decide
            · exact hx a q
          refine sz_Model_fact_55 _ _ _ (fun _ => ?_) (fun q => absurd q (by decide))
          rw [s3.1.1, nI_1]
          have g4 : frZ tx I0 (am_u I3 186 14 (nI (sk B t p + 1))) := (g2.tr g3).tr (frZ.uf (by decide))
          refine hcf (sk B t p + 1) v T (91 :: st) _ _ x2 hq (g4.T hT0) (mvM s3) (skR_F (F := [14]) (frm.rf.uf (by simp)) (by decide) st3) hd91 hx91 hv (by show T.length + (st.length + 1) ≤ _; omega) g4 (fun y I5 y2 g5 s5 st5 => ?_) (fun y I5 g5 e5 => ?_)
          · obtain ⟨q1, q2, q3, q4, q5, q6⟩ := hgf.2 y
            have e6 : setl 3 (91 :: st) (T ++ (f (sk B t p + 1) v).2.2.2) = (91 :: st, T ++ (f (sk B t p + 1) v).2.2.2) := by rw [setl, if_pos (by decide)]
            rw [e6] at s5 st5
            have et : testF B t f (sk B t p + 1) v = tstL B t f 401 false (f (sk B t p + 1) v).2.1 (f (sk B t p + 1) v).2.2.1 ((f (sk B t p + 1) v).2.2.2 ++ da false) := by
              have e0 : da false = [] := rfl
              rw [e0, List.append_nil]; exact if_pos y
            rw [et] at h1 h0
            refine lp_tst (k := k - 1) (T := T) hT0 hcf hg (fun j X hj => by rw [setl, if_pos (show stg 91 < j from hj)]) hd91 hx91 401 false false _ _ (f (sk B t p + 1) v).2.2.2 I5 y2 (by omega) q2 (g5.T hT0) s5 st5 q5 (by rw [List.length_append]; show _ + _ + (st.length + 1) ≤ _; omega) g5 (fun w a' b' p'' oR' I6 x6 hp6 g6 hT6 e6 s6 st6 er hl6 na no => ?_) (fun w I6 g6 e6 => ?_)
            · have epk : pk B t (tstL B t f 401 false (f (sk B t p + 1) v).2.1 (f (sk B t p + 1) v).2.2.1 ((f (sk B t p + 1) v).2.2.2 ++ da false)).2.1 = pk B t p'' := by rw [← e6]; exact pk_sk hp6 ht
              have esk : sk B t (tstL B t f 401 false (f (sk B t p + 1) v).2.1 (f (sk B t p + 1) v).2.2.1 ((f (sk B t p + 1) v).2.2.2 ++ da false)).2.1 = sk B t p'' := by rw [← e6]; exact sk_id hp6 ht
              have eb : bnd (tstL B t f 401 false (f (sk B t p + 1) v).2.1 (f (sk B t p + 1) v).2.2.1 ((f (sk B t p + 1) v).2.2.2 ++ da false)) (fun p1 v1 o1 => if pk B t p1 = 93 then (0, sk B t p1 + 1, v1, o1) else bad (1 + 8 * sk B t p1)) = (if pk B t p'' = 93 then (0, sk B t p'' + 1, (tstL B t f 401 false (f (sk B t p + 1) v).2.1 (f (sk B t p + 1) v).2.2.1 ((f (sk B t p + 1) v).2.2.2 ++ da false)).2.2.1, oR' ++ da a' ++ o13 b') else bad (1 + 8 * sk B t p'')) := by
                unfold bnd; rw [if_pos w]; dsimp only; rw [epk, esk, er]
              rw [eb] at h1 h0
              refine a1_br hp6 hT6 s6 st6 hx hl6 na no g6 (fun q I7 g7 s7 st7 => ?_) (fun q I7 g7 e7 => ?_)
              · rw [if_pos q] at h1
                have ea : T ++ oR' ++ da a' ++ o13 b' = T ++ (oR' ++ da a' ++ o13 b') := by simp only [List.append_assoc]
                rw [ea] at s7 st7
                exact h1 rfl I7 x6 g7 s7 st7
              · rw [if_neg q] at h0
                exact h0 (by show ¬ 1 + 8 * sk B t p'' = 0; omega) I7 g7 e7
            · have eb : bnd (tstL B t f 401 false (f (sk B t p + 1) v).2.1 (f (sk B t p + 1) v).2.2.1 ((f (sk B t p + 1) v).2.2.2 ++ da false)) (fun p1 v1 o1 => if pk B t p1 = 93 then (0, sk B t p1 + 1, v1, o1) else bad (1 + 8 * sk B t p1)) = bad (tstL B t f 401 false (f (sk B t p + 1) v).2.1 (f (sk B t p + 1) v).2.2.1 ((f (sk B t p + 1) v).2.2.2 ++ da false)).1 := if_neg w
              rw [eb] at h0
              exact h0 w I6 g6 e6
          · have et : testF B t f (sk B t p + 1) v = bad (f (sk B t p + 1) v).1 := if_neg y
            have eb : bnd (testF B t f (sk B t p + 1) v) (fun p1 v1 o1 => if pk B t p1 = 93 then (0, sk B t p1 + 1, v1, o1) else bad (1 + 8 * sk B t p1)) = bad (f (sk B t p + 1) v).1 := by rw [et]; exact if_neg y
            rw [eb] at h0
            exact h0 y I5 g5 e5
      · have : inner = none := hin.mpr (by omega)
        subst this
        have es : stpF B t none p v = bad (1 + 8 * sk B t p + 2) := by unfold stpF; rw [if_neg y1, if_pos y2]
        rw [es] at fail
        exact sz_Model_fact_55 _ _ _ (fun q => absurd rfl q) (fun _ => fail I3 (g2.tr g3) (by show ¬ 1 + 8 * sk B t p + 2 = 0; omega) e3)
theorem cf_fact (hT0 : tpM I0 B t) : ∀ k, CF d Lx ρ Q L B t tx I0 k (factP B t k) := by
  have hB := fun i hi => (hT0.2.2 i hi).2
  have ht := hT0.2.1
  intro k
  induction k with
  | zero => exact cf_stp hT0 ⟨fun _ => rfl, fun _ => rfl⟩ (fun f h => by simp at h)
  | succ k ih =>
    exact cf_stp (inner := some (factP B t k)) hT0 ⟨fun h => (by cases h), fun h => absurd h (by omega)⟩ (fun f h => by injection h with h; subst h; exact ⟨ih, factP_g hB ht k⟩)
end RMX
