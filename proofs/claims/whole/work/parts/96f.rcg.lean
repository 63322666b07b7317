/-! ===== rule: the class's facts ===== -/
section RCG
variable {d Lx : Nat} {ρ : List (Nat × Nat)} {Q : am_Q}
theorem fct_b {I : am_I} {L : am_L} {B : Nat → Nat} {t e : Nat} {x1 x2 x3 x4 : Int32} {x5 : Value} (hT : tpC I B t) (hb : bdR I t e) (he : ¬ e = 0) (he2 : e < 4000) (h : ∀ I', frG I I' → bdR I' t e → Q none I' L (gg Lx ρ)) : am_W am_all (am_run (d + 5)) e_RuleReader_readFact Q 53 [.ref 16, .int x1, .int x2, .int x3, .int x4, x5] [] I L (gg Lx ρ) 0 0 := by
  refine sy_RuleReader_readFact_53 (d := d + 4) _ _ _ _ _ ?_
  refine sp_readSign_b (d := d + 2) hT hb he he2 (fun I1 y g1 b1 => ?_)
  refine sy_RuleReader_readFact_57 (d := d + 4) _ _ _ _ _ _ ?_
  refine sp_readSum_b (d := d) b1 he he2 (fun I2 g2 b2 => ?_)
  have o2 := bdR_o b2
  have w2 := wrt_bd (x := y) b2
  exact sy_RuleReader_readFact_63 (d := d + 4) _ _ _ _ _ o2.1 o2.2 (h _ ((g1.tr g2).tr w2.2) w2.1)
theorem fct_c {I : am_I} {L : am_L} {B : Nat → Nat} {t p v s : Nat} {Cs : Nat → List Nat} {x1 x2 x3 x4 : Int32} {x5 : Value} (hT : tpC I B t) (hp : p ≤ t) (hs : pcR I p v s Cs) (hv : v ≤ 60) (hl : (Cs s).length ≤ p)
    (h1 : (cmpP B t p v).1 = 0 → ∀ I', frG I I' → pcR I' (cmpP B t p v).2.1 (cmpP B t p v).2.2.1 s (ap Cs s ((cmpP B t p v).2.2.2.map tkC)) → Q none I' L (gg Lx ρ))
    (h0 : ¬ (cmpP B t p v).1 = 0 → ∀ I', frG I I' → bdR I' t (cmpP B t p v).1 → Q none I' L (gg Lx ρ)) : am_run (d + 5) m_RuleReader_readSum [.ref 16] I L (gg Lx ρ) (fun r I' L' G' => am_W am_all (am_run (d + 5)) e_RuleReader_readFact Q 53 [.ref 16, .int x1, .int x2, .int x3, .int x4, x5] (r.toList ++ ([] : List Value)) I' L' G' 0 0) := by
  have hB := fun i hi => (hT.2.2 i hi).2
  have ht := hT.2.1
  have g := sumP_g hB ht (v := v) hp
  refine sp_readSum (d := d) hT hp hs hv hl (fun z I1 f1 s1 => ?_) (fun z I1 f1 b1 => ?_)
  · obtain ⟨g1, g2, g3, g4, g5, g6⟩ := g.2 z
    have sg := sgnP_g (B := B) (v := (sumP B t p v).2.2.1) ht g2
    refine sy_RuleReader_readFact_53 (d := d + 4) _ _ _ _ _ ?_
    refine sp_readSign (d := d + 2) (f1.T hT) g2 s1 g5 (fun y I2 f2 s2 => ?_) (fun y I2 w f2 b2 => ?_)
    · obtain ⟨k1, k2, k3, k4, k5, k6⟩ := sg.2 y
      have r := sumP_g hB ht (v := (sgnP B t (sumP B t p v).2.1 (sumP B t p v).2.2.1).2.2.1) k2
      refine sy_RuleReader_readFact_57 (d := d + 4) _ _ _ _ _ _ ?_
      refine sp_readSum (d := d) ((f1.tr f2).T hT) k2 s2 (by omega) (by rw [ap_s]; simp; omega) (fun x I3 f3 s3 => ?_) (fun x I3 f3 b3 => ?_)
      · obtain ⟨r1, r2, r3, r4, r5, r6⟩ := r.2 x
        have es : cmpP B t p v = (0, (sumP B t (sgnP B t (sumP B t p v).2.1 (sumP B t p v).2.2.1).2.1 (sgnP B t (sumP B t p v).2.1 (sumP B t p v).2.2.1).2.2.1).2.1, (sumP B t (sgnP B t (sumP B t p v).2.1 (sumP B t p v).2.2.1).2.1 (sgnP B t (sumP B t p v).2.1 (sumP B t p v).2.2.1).2.2.1).2.2.1, (sumP B t p v).2.2.2 ++ (sumP B t (sgnP B t (sumP B t p v).2.1 (sumP B t p v).2.2.1).2.1 (sgnP B t (sumP B t p v).2.1 (sumP B t p v).2.2.1).2.2.1).2.2.2 ++ [(sgnP B t (sumP B t p v).2.1 (sumP B t p v).2.2.1).2.2.2]) := by
          unfold cmpP bnd; rw [if_pos z]; dsimp only; rw [if_pos y, if_pos x]
        rw [es] at h1
        have o3 := bdR_o (pcR_bd r2 s3)
        rw [ap_ap] at s3
        have wo := wrt_ok (x := tkC (sgnP B t (sumP B t p v).2.1 (sumP B t p v).2.2.1).2.2.2) s3 (by rw [ap_s]; simp; omega)
        refine sy_RuleReader_readFact_63 (d := d + 4) _ _ _ _ _ o3.1 o3.2 (h1 rfl _ (((f1.tr f2).tr f3).tr wo.2) ?_)
        have sw := wo.1
        rw [ap_ap] at sw
        show pcR _ _ _ s (ap Cs s ((_ ++ _ ++ [_]).map tkC))
        rw [List.map_append, List.map_append]; exact sw
      · have es : cmpP B t p v = bad (sumP B t (sgnP B t (sumP B t p v).2.1 (sumP B t p v).2.2.1).2.1 (sgnP B t (sumP B t p v).2.1 (sumP B t p v).2.2.1).2.2.1).1 := by
          unfold cmpP bnd; rw [if_pos z]; dsimp only; rw [if_pos y, if_neg x]
        rw [es] at h0
        have o3 := bdR_o b3
        have w3 := wrt_bd (x := nI (tkC (sgnP B t (sumP B t p v).2.1 (sumP B t p v).2.2.1).2.2.2)) b3
        exact sy_RuleReader_readFact_63 (d := d + 4) _ _ _ _ _ o3.1 o3.2 (h0 x _ (((f1.tr f2).tr f3).tr w3.2) w3.1)
    · have es : cmpP B t p v = bad (sgnP B t (sumP B t p v).2.1 (sumP B t p v).2.2.1).1 := by
        unfold cmpP bnd; rw [if_pos z]; dsimp only; rw [if_neg y]
      rw [es] at h0
      refine sy_RuleReader_readFact_57 (d := d + 4) _ _ _ _ _ _ ?_
      refine sp_readSum_b (d := d) b2 y sg.1 (fun I3 f3 b3 => ?_)
      have o3 := bdR_o b3
      have w3 := wrt_bd (x := w) b3
      exact sy_RuleReader_readFact_63 (d := d + 4) _ _ _ _ _ o3.1 o3.2 (h0 y _ (((f1.tr f2).tr f3).tr w3.2) w3.1)
  · have es : cmpP B t p v = bad (sumP B t p v).1 := if_neg z
    rw [es] at h0
    exact fct_b (f1.T hT) b1 z g.1 (fun I2 f2 b2 => h0 z I2 (f1.tr f2) b2)
theorem stp_ok {B : Nat → Nat} {t k : Nat} {inner : Option FT} (hk : k ≤ 10) (hin : inner = none ↔ k = 0)
    (hf : ∀ f, inner = some f → okF (d + 5) Lx ρ (nI (10 - k + 1)) B t f ∧ okF (d + 4) Lx ρ (nI (10 - k + 1)) B t f ∧ ∀ p v, p ≤ t → gd t true p v (f p v)) : okF (d + 6) Lx ρ (nI (10 - k)) B t (stpF B t inner) := by
  intro Q I L p v s Cs hT hp hs hv hl h1 h0
  have hB := fun i hi => (hT.2.2 i hi).2
  have ht := hT.2.1
  have hkk := sk_le (B := B) hp
  have hid := sk_id (B := B) hp ht
  refine run_in rfl rfl ⟨rfl, rfl⟩ (sy_RuleReader_readFact_0 (d := d + 4) _ (fun _ => ?_) (fun z => absurd hs.1.2 z))
  refine sp_peek (d := d + 4) hT hp hs.1 (fun I1 f1 c1 => ?_)
  have hT1 := tpC_fr f1 hT
  have s1 := pcR_13 f1 c1 hs
  refine sy_RuleReader_readFact_18 (d := d + 4) _ _ _ _ _ _ ?_
  rw [c1.1]
  refine sp_passWord (d := d + 3) hT1 hkk.2 (by decide) w_Not (by decide) (by decide) c1 (fun I2 f2 c2 => ?_)
  rw [hid] at c2
  rw [hid]
  have hT2 := tpC_fr f2 hT1
  have f12 := f1.tr f2
  have ex : nI (10 - k) + 1 = nI (10 - k + 1) := nI_1 _
  have lt10 : nI (10 - k) < 10 ↔ ¬ k = 0 := by
    constructor
    · intro z q; subst q; exact absurd z (by decide)
    · intro z; exact nI_lt (b := 10) (by omega) (by decide)
  have deep : ∀ {J : am_I} {q : Nat}, fr13 I J → cur J q 0 → q ≤ t → stpF B t inner p v = bad (1 + 8 * sk B t p + 2) → Q none (cFail J (nI (sk B t p)) 2) L (gg Lx ρ) := by
    intro J q fJ cJ hq e
    rw [e] at h0
    have g := bdR_f (q := sk B t p) (w := 2) (pcR_bd hq (pcR_13 fJ cJ hs)) (by decide)
    exact h0 (by show ¬ 1 + 8 * sk B t p + 2 = 0; omega) _ ((frG.o3 fJ).tr g.2) g.1
  by_cases y1 : isW B t (sk B t p) wNot = true
  · rw [if_pos y1] at c2
    have hq : sk B t p + 3 ≤ t := isW_le hkk.2 y1
    refine sy_RuleReader_readFact_36 (d := d + 4) _ _ _ _ _ _ (fun _ z => ?_) (fun _ z => ?_) (fun z => absurd y1 (bI0 z)) (fun z => absurd y1 (bI0 z)) (fun z => absurd y1 (bI0 z))
    · have z := lt10.mp z
      cases inner with
      | none => exact absurd (hin.mp rfl) z
      | some f =>
        obtain ⟨o5, o4, hg⟩ := hf f rfl
        have hgf := hg (sk B t p + 3) v hq
        have es : stpF B t (some f) p v = bnd (f (sk B t p + 3) v) (fun p1 v1 o1 => (0, p1, v1, o1 ++ [11])) := by unfold stpF; rw [if_pos y1]
        rw [es] at h1 h0
        rw [ex]
        refine o5 hT2 hq (pcR_13 f12 c2 hs) hv (by omega) (fun x I3 g3 s3 => ?_) (fun x I3 g3 b3 => ?_)
        · obtain ⟨q1, q2, q3, q4, q5, q6⟩ := hgf.2 x
          have eb : bnd (f (sk B t p + 3) v) (fun p1 v1 o1 => (0, p1, v1, o1 ++ [11])) = (0, (f (sk B t p + 3) v).2.1, (f (sk B t p + 3) v).2.2.1, (f (sk B t p + 3) v).2.2.2 ++ [11]) := if_pos x
          rw [eb] at h1
          have o3 := bdR_o (pcR_bd q2 s3)
          have wo := wrt_ok (x := tkC 11) s3 (by rw [ap_s]; simp; omega)
          refine sy_RuleReader_readFact_98 (d := d + 4) _ _ _ _ _ o3.1 o3.2 (h1 rfl _ (((frG.o3 f12).tr g3).tr wo.2) ?_)
          have sw := wo.1
          rw [ap_ap] at sw
          show pcR _ _ _ s (ap Cs s ((_ ++ [_]).map tkC))
          rw [List.map_append]; exact sw
        · have eb : bnd (f (sk B t p + 3) v) (fun p1 v1 o1 => (0, p1, v1, o1 ++ [11])) = bad (f (sk B t p + 3) v).1 := if_neg x
          rw [eb] at h0
          have o3 := bdR_o b3
          have w3 := wrt_bd (x := 100020) b3
          exact sy_RuleReader_readFact_98 (d := d + 4) _ _ _ _ _ o3.1 o3.2 (h0 x _ (((frG.o3 f12).tr g3).tr w3.2) w3.1)
    · have z : k = 0 := Decidable.byContradiction fun q => z (lt10.mpr q)
      refine deep f12 c2 hq ?_
      have : inner = none := hin.mpr z
      subst this
      unfold stpF; rw [if_pos y1]
  · rw [if_neg y1] at c2
    have s2 := pcR_13 f12 c2 hs
    refine sy_RuleReader_readFact_36 (d := d + 4) _ _ _ _ _ _ (fun z => absurd (bI_f y1) z) (fun z => absurd (bI_f y1) z) (fun _ y2 z => ?_) (fun _ y2 z => ?_) (fun _ y2 => ?_)
    · have z := lt10.mp z
      have hlt := pkc_lt y2 (by decide)
      cases inner with
      | none => exact absurd (hin.mp rfl) z
      | some f =>
        obtain ⟨o5, o4, hg⟩ := hf f rfl
        have hgt := testF_g (B := B) ht hg (v := v) (show sk B t p + 1 ≤ t by omega)
        have es : stpF B t (some f) p v = bnd (testF B t f (sk B t p + 1) v) (fun p1 v1 o1 => if pk B t p1 = 93 then (0, sk B t p1 + 1, v1, o1) else bad (1 + 8 * sk B t p1)) := by unfold stpF; rw [if_neg y1, if_pos y2]
        rw [es] at h1 h0
        rw [ex, nI_1]
        refine sp_readTest (d := d + 1) o4 hg (frG.m.T hT2) (by omega) (mv_ok s2) hv (by omega) (fun x I3 g3 s3 => ?_) (fun x I3 g3 b3 => ?_)
        · obtain ⟨q1, q2, q3, q4, q5, q6⟩ := hgt.2 x
          have eb : bnd (testF B t f (sk B t p + 1) v) (fun p1 v1 o1 => if pk B t p1 = 93 then (0, sk B t p1 + 1, v1, o1) else bad (1 + 8 * sk B t p1)) = (if pk B t (testF B t f (sk B t p + 1) v).2.1 = 93 then (0, sk B t (testF B t f (sk B t p + 1) v).2.1 + 1, (testF B t f (sk B t p + 1) v).2.2.1, (testF B t f (sk B t p + 1) v).2.2.2) else bad (1 + 8 * sk B t (testF B t f (sk B t p + 1) v).2.1)) := if_pos x
          rw [eb] at h1 h0
          have g03 := ((frG.o3 f12).tr frG.m).tr g3
          refine sy_RuleReader_readFact_122 (d := d + 4) _ _ _ _ _ ?_
          refine run_in (d := d + 4) rfl rfl ⟨rfl, rfl⟩ (sz_Tape_passSign_0 _ ?_)
          refine sp_peek (d := d + 3) (g03.T hT) q2 s3.1 (fun I4 f4 c4 => ?_)
          have s4 := pcR_13 f4 c4 s3
          have g04 := g03.tr (frG.o3 f4)
          refine sz_Tape_passSign_4 _ _ (fun y => ?_) (fun y => ?_)
          · refine sy_RuleReader_readFact_131 (d := d + 4) _ _ _ _ _ _ (fun _ => ?_) (fun q => absurd q (by decide))
            rw [if_pos y] at h1
            rw [c4.1, nI_1]
            exact h1 rfl _ (g04.tr frG.m) (mv_ok s4)
          · refine sy_RuleReader_readFact_131 (d := d + 4) _ _ _ _ _ _ (fun q => absurd rfl q) (fun _ => ?_)
            rw [if_neg y] at h0
            rw [c4.1]
            have g := bdR_f (q := sk B t (testF B t f (sk B t p + 1) v).2.1) (w := 0) (pcR_bd (sk_le q2).2 s4) (by decide)
            exact h0 (by show ¬ 1 + 8 * sk B t (testF B t f (sk B t p + 1) v).2.1 = 0; omega) _ (g04.tr g.2) g.1
        · have eb : bnd (testF B t f (sk B t p + 1) v) (fun p1 v1 o1 => if pk B t p1 = 93 then (0, sk B t p1 + 1, v1, o1) else bad (1 + 8 * sk B t p1)) = bad (testF B t f (sk B t p + 1) v).1 := if_neg x
          rw [eb] at h0
          have g03 := ((frG.o3 f12).tr frG.m).tr g3
          obtain ⟨⟨pb, hpb, cb⟩, _⟩ := id b3
          refine sy_RuleReader_readFact_122 (d := d + 4) _ _ _ _ _ ?_
          refine run_in (d := d + 4) rfl rfl ⟨rfl, rfl⟩ (sz_Tape_passSign_0 _ ?_)
          refine sp_peek (d := d + 3) (g03.T hT) hpb cb (fun I4 f4 c4 => ?_)
          have b4 := bdR_13 f4 (sk_le hpb).2 c4 b3
          have g04 := g03.tr (frG.o3 f4)
          refine sz_Tape_passSign_4 _ _ (fun y => ?_) (fun y => ?_)
          · refine sy_RuleReader_readFact_131 (d := d + 4) _ _ _ _ _ _ (fun _ => ?_) (fun q => absurd q (by decide))
            rw [c4.1, nI_1]
            have := pkc_lt y (by decide)
            exact h0 x _ (g04.tr frG.m) (mv_bd b4 (by omega))
          · refine sy_RuleReader_readFact_131 (d := d + 4) _ _ _ _ _ _ (fun q => absurd rfl q) (fun _ => ?_)
            rw [c4.1]
            have g := bdR_f (q := sk B t pb) (w := 0) b4 (by have := hgt.1; omega)
            have ee : ff (testF B t f (sk B t p + 1) v).1 (1 + 8 * sk B t pb + 0) = (testF B t f (sk B t p + 1) v).1 := if_neg x
            rw [ee] at g
            exact h0 x _ (g04.tr g.2) g.1
    · have z : k = 0 := Decidable.byContradiction fun q => z (lt10.mpr q)
      refine deep f12 c2 hkk.2 ?_
      have : inner = none := hin.mpr z
      subst this
      unfold stpF; rw [if_neg y1, if_pos y2]
    · have es : stpF B t inner p v = cmpP B t (sk B t p) v := by unfold stpF; rw [if_neg y1, if_neg y2]
      rw [es] at h1 h0
      exact fct_c hT2 hkk.2 s2 hv (by omega) (fun x I3 g3 s3 => h1 x I3 ((frG.o3 f12).tr g3) s3) (fun x I3 g3 b3 => h0 x I3 ((frG.o3 f12).tr g3) b3)
theorem fact_ok {B : Nat → Nat} {t : Nat} (hB : ∀ i, i < t → B i < 256) (ht : t ≤ 400) : ∀ k d, k ≤ 10 → okF (d + 6 + 2 * k) Lx ρ (nI (10 - k)) B t (factP B t k) := by
  intro k
  induction k with
  | zero =>
    intro d _
    exact stp_ok (d := d) (by omega) ⟨fun _ => rfl, fun _ => rfl⟩ (fun f h => by simp at h)
  | succ k ih =>
    intro d hk
    have e : d + 6 + 2 * (k + 1) = d + 2 + 2 * k + 6 := by omega
    rw [e]
    have hff : ∀ f, some (factP B t k) = some f → okF (d + 2 + 2 * k + 5) Lx ρ (nI (10 - (k + 1) + 1)) B t f ∧ okF (d + 2 + 2 * k + 4) Lx ρ (nI (10 - (k + 1) + 1)) B t f ∧ ∀ p v, p ≤ t → gd t true p v (f p v) := by
      intro f h
      injection h with h
      subst h
      have ek : 10 - (k + 1) + 1 = 10 - k := by omega
      rw [ek]
      have h1 := @ih (d + 1) (by omega)
      have h2 := @ih d (by omega)
      rw [show d + 1 + 6 + 2 * k = d + 2 + 2 * k + 5 by omega] at h1
      rw [show d + 6 + 2 * k = d + 2 + 2 * k + 4 by omega] at h2
      exact ⟨h1, h2, factP_g hB ht k⟩
    show okF (d + 2 + 2 * k + 6) Lx ρ (nI (10 - (k + 1))) B t (stpF B t (some (factP B t k)))
    exact @stp_ok (d + 2 + 2 * k) Lx ρ B t (k + 1) (some (factP B t k)) hk ⟨fun h => (by cases h), fun h => absurd h (by omega)⟩ hff
end RCG
