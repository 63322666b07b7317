/-! ===== rule: the reference's clauses ===== -/
section RMY
variable {d Lx : Nat} {ρ : List (Nat × Nat)} {Q : am_Q} {L : am_L} {B : Nat → Nat} {t tx : Nat} {I0 : am_I}
theorem a1_top {a b : Bool} {p v : Nat} {T : List Nat} {I : am_I} {x2 : Value} (hp : p ≤ t) (hT : tpM I B t) (hs : pmR I p v tx T) (hst : skR I (pd a b ++ [])) (hl : T.length + (pd a b ++ []).length ≤ p) (ha : ¬ isW B t (sk B t p) wAnd = true) (ho : ¬ isW B t (sk B t p) wOr = true) (g0 : frZ tx I0 I)
    (h1 : ∀ I', frZ tx I0 I' → pmR I' (sk B t p) v tx (T ++ da a ++ o13 b) → Q (some (.int 1)) I' L (gg Lx ρ)) : A1 d Lx ρ Q L I x2 := by
  have ht := hT.2.1
  have hk := sk_le (B := B) hp
  have hid := sk_id (B := B) hp ht
  have hbs : ∀ j X, 1 ≤ j → setl j ([] : List Nat) X = ([], X) := fun j X hj => rfl
  have hxx : ∀ x ∈ ([] : List Nat), x < 200 := fun x hx => by simp at hx
  have hin : ¬ 91 ∈ pd a b ++ [] := fun q => by have := pd_i.mp q; simp at this
  have hl4 : (pd a b ++ []).length ≤ 400 := by omega
  have rest : ∀ {J : am_I}, frF [14] I J → mcu J (sk B t p) 0 → am_W am_all (am_run (d + 8)) e_Model_tested Q 29 [.ref 186, .int 1, x2] [] J L (gg Lx ρ) 0 0 := by
    intro J fJ cJ
    have hTJ := tpM_fr fJ (by decide) (by decide) hT
    refine a1_no hTJ hk.2 (pmR_F fJ (by decide) cJ hs) (by rw [hid]; exact ha) (by rw [hid]; exact ho) (fun I2 f2 c2 => ?_)
    rw [hid] at c2
    have fJ2 := fJ.tr f2
    have s2 := pmR_F fJ2 (by decide) c2 hs
    have st2 := skR_F fJ2 (by decide) hst
    refine sy_Model_tested_12 (d := d + 7) _ _ (fun _ => ?_) (fun q => absurd rfl q)
    refine sp_isInside (d := d + 7) st2 hl4 (pd_x hxx) ?_
    rw [bI_f hin]
    refine sy_Model_tested_116 (d := d + 7) _ _ _ (fun _ => ?_) (fun q => absurd rfl q)
    refine sp_settles (d := d + 6) (k := 1) (by decide) (by decide) (by omega) (pd_x hxx) s2 st2 (by omega) (fun I3 g3 s3 st3 => ?_)
    rw [setl_1 hbs] at s3
    exact sy_Model_tested_139 (d := d + 7) _ _ (h1 I3 ((g0.tr (frZ.F fJ2 (by decide))).tr g3) s3)
  unfold A1
  refine sz_Model_closes_5 ?_
  refine sp_see (d := d + 6) hT hp hs.1 (fun I1 f1 c1 => ?_)
  have st1 := skR_F f1 (by decide) hst
  refine sz_Model_closes_9 _ (fun z => rest f1 c1) (fun z => ?_)
  refine sp_isInside (d := d + 6) st1 hl4 (pd_x hxx) ?_
  rw [bI_f hin]
  exact sz_Model_closes_18 _ (fun _ => rest f1 c1) (fun q => absurd rfl q)
theorem sp_tested {I : am_I} {p v : Nat} {T : List Nat} (hT : tpM I B t) (hp : p ≤ t) (hs : pmR I p v tx T) (hv : v ≤ 60) (hl : T.length ≤ p)
    (h1 : (testF B t (factP B t 10) p v).1 = 0 → ∀ I', frZ tx I I' → pmR I' (testF B t (factP B t 10) p v).2.1 (testF B t (factP B t 10) p v).2.2.1 tx (T ++ (testF B t (factP B t 10) p v).2.2.2) → Q (some (.int 1)) I' L (gg Lx ρ))
    (h0 : ¬ (testF B t (factP B t 10) p v).1 = 0 → ∀ I', frZ tx I I' → I' 186 15 = nI (testF B t (factP B t 10) p v).1 → Q (some (.int 0)) I' L (gg Lx ρ)) : am_run (d + 9) m_Model_tested [.ref 186] I L (gg Lx ρ) Q := by
  have hB := fun i hi => (hT.2.2 i hi).2
  have ht := hT.2.1
  have hg := factP_g hB ht 10
  have hgf := hg p v hp
  refine run_in rfl rfl ⟨rfl, rfl⟩ (sy_Model_tested_0 (d := d + 7) ?_)
  refine sy_Model_tested_12 (d := d + 7) _ _ (fun q => absurd q (by decide)) (fun _ => ?_)
  refine run_in (d := d + 7) rfl rfl ⟨rfl, rfl⟩ (sz_Model_fact_0 ?_)
  have gA : frZ tx I (am_u (am_u I 186 22 0) 186 19 0) := (frZ.uf (by decide)).tr (frZ.uf (by decide))
  have sA : pmR (am_u (am_u I 186 22 0) 186 19 0) p v tx T := pmR_st (by rw [am_u_ne (by decide), am_u_ne (by decide)]) (by rw [am_u_ne (by decide), am_u_ne (by decide)]) (fun k z1 z2 => by rw [am_u_nk z1, am_u_nk z2]) hs
  have stA : skR (am_u (am_u I 186 22 0) 186 19 0) [] := ⟨by rw [am_u_nk (by decide), am_u_at]; rfl, trivial, by rw [am_u_at]; rfl⟩
  have hcf : CF d Lx ρ Q L B t tx I 10 (factP B t 10) := cf_fact hT 10
  refine hcf p v T [] _ .null .null hp (gA.T hT) sA stA rfl (fun x hx => by simp at hx) hv (by show T.length + 0 ≤ p; omega) gA (fun z I1 y1 g1 s1 st1 => ?_) (fun z I1 g1 e1 => ?_)
  · obtain ⟨q1, q2, q3, q4, q5, q6⟩ := hgf.2 z
    have et : testF B t (factP B t 10) p v = tstL B t (factP B t 10) 401 false (factP B t 10 p v).2.1 (factP B t 10 p v).2.2.1 ((factP B t 10 p v).2.2.2 ++ da false) := by
      have e0 : da false = [] := rfl
      rw [e0, List.append_nil]; exact if_pos z
    rw [et] at h1 h0
    refine lp_tst (k := 10) (T := T) (bs := []) hT hcf hg (fun j X hj => rfl) rfl (fun x hx => by simp at hx) 401 false false _ _ (factP B t 10 p v).2.2.2 I1 y1 (by omega) q2 (g1.T hT) s1 st1 q5 (by rw [List.length_append]; show _ + _ + 0 ≤ _; omega) g1 (fun w a' b' p'' oR' I6 x6 hp6 g6 hT6 e6 s6 st6 er hl6 na no => ?_) h0
    refine a1_top hp6 hT6 s6 st6 hl6 na no g6 (fun I7 g7 s7 => ?_)
    refine h1 w I7 g7 ?_
    rw [er, ← e6]
    have ea : T ++ oR' ++ da a' ++ o13 b' = T ++ (oR' ++ da a' ++ o13 b') := by simp only [List.append_assoc]
    rw [← ea]; exact s7
  · have et : testF B t (factP B t 10) p v = bad (factP B t 10 p v).1 := if_neg z
    rw [et] at h0
    exact h0 z I1 g1 e1
end RMY
