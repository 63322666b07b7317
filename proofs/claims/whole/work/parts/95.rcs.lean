/-! ===== rule: the class's sums and signs ===== -/
section RCS
variable {d Lx : Nat} {ρ : List (Nat × Nat)} {Q : am_Q}
def xw (w : Nat) : Int32 := if w = 0 then 0 else nI (tkC w)
theorem am_u_uu {f : am_I} {a k : Nat} {x y : Int32} : am_u (am_u f a k x) a k y = am_u f a k y := by
  funext b j
  by_cases z : b = a
  · subst z
    by_cases w : j = k
    · subst w; rw [am_u_at, am_u_at]
    · rw [am_u_nk w, am_u_nk w, am_u_nk w]
  · rw [am_u_ne z, am_u_ne z, am_u_ne z]
theorem mv_ok {I : am_I} {p q v s : Nat} {Cs : Nat → List Nat} (h : pcR I p v s Cs) : pcR (am_u I 13 2 (nI q)) q v s Cs := pcR_13 (fr13.rf.u2) ⟨am_u_at, by rw [am_u_nk (by decide)]; exact h.1.2⟩ h
theorem mv_bd {I : am_I} {t q e : Nat} (h : bdR I t e) (hq : q ≤ t) : bdR (am_u I 13 2 (nI q)) t e := by
  obtain ⟨⟨p, hp, h1⟩, _⟩ := id h
  exact bdR_13 (fr13.rf.u2) hq ⟨am_u_at, by rw [am_u_nk (by decide)]; exact h1.2⟩ h
theorem frG.m {I : am_I} {q : Int32} : frG I (am_u I 13 2 q) := frG.o3 (fr13.rf.u2)
theorem lp_rsum_b {I : am_I} {L : am_L} {t e i : Nat} {x1 : Int32} {x3 : Value} (hb : bdR I t e) (he : ¬ e = 0) (he2 : e < 4000)
    (h : ∀ I', frG I I' → bdR I' t e → Q none I' L (gg Lx ρ)) : am_W am_all (am_run (d + 1)) e_RuleReader_readSum Q 8 [.ref 16, .int x1, .int (nI i), x3] [] I L (gg Lx ρ) 0 0 := by
  obtain ⟨⟨p, hp, h1⟩, _⟩ := id hb
  have o := bdR_o hb
  have w := wrt_bd (x := x1) hb
  refine sy_RuleReader_readSum_8 _ _ _ (fun _ _ => h I frG.rf hb) (fun _ _ => o.1) (fun _ _ => o.2) (fun _ _ => h _ w.2 w.1) (fun _ _ _ => h I frG.rf hb) (fun _ _ _ => o.1) (fun _ _ _ => o.2) (fun _ _ _ => h _ w.2 w.1) (fun _ z => ?_)
  rw [h1.2] at z
  exact absurd ((nI_eq (b := 0) (by omega) (by decide)).mp z) he
theorem lp_rsum {L : am_L} {B : Nat → Nat} {t s : Nat} {Cs : Nat → List Nat} {I0 : am_I} : ∀ F i p v w o I x3, i + F = 401 → i < p → p ≤ t → tpC I B t → pcR I p v s (ap Cs s (o.map tkC)) → v ≤ 60 → (Cs s).length + o.length + (wl w).length ≤ p → (w = 0 ∨ w = 2 ∨ w = 3) → frG I0 I →
    ((sumL B t F p v w o).1 = 0 → ∀ I', frG I0 I' → pcR I' (sumL B t F p v w o).2.1 (sumL B t F p v w o).2.2.1 s (ap Cs s ((sumL B t F p v w o).2.2.2.map tkC)) → Q none I' L (gg Lx ρ)) →
    (¬ (sumL B t F p v w o).1 = 0 → ∀ I', frG I0 I' → bdR I' t (sumL B t F p v w o).1 → Q none I' L (gg Lx ρ)) →
    am_W am_all (am_run (d + 4)) e_RuleReader_readSum Q 8 [.ref 16, .int (xw w), .int (nI i), x3] [] I L (gg Lx ρ) 0 0 := by
  intro F
  induction F with
  | zero => intro i p v w o I x3 h1 h2 h3 hT; have := hT.2.1; omega
  | succ F ih =>
    intro i p v w o I x3 hi hip hp hT hs hv hl hw g0 h1 h0
    have hB := fun i hi => (hT.2.2 i hi).2
    have ht := hT.2.1
    have hk := sk_le (B := B) hp
    have i400 : nI i < 400 := nI_lt (b := 400) (by omega) (by decide)
    refine sy_RuleReader_readSum_8 (d := d + 3) _ _ _ (fun z => absurd i400 z) (fun z => absurd i400 z) (fun z => absurd i400 z) (fun z => absurd i400 z) (fun _ z => absurd hs.1.2 z) (fun _ z => absurd hs.1.2 z) (fun _ z => absurd hs.1.2 z) (fun _ z => absurd hs.1.2 z) (fun _ _ => ?_)
    refine sp_peek (d := d + 3) hT hp hs.1 (fun I1 f1 c1 => ?_)
    have hT1 := tpC_fr f1 hT
    have s1 := pcR_13 f1 c1 hs
    have g1 := g0.tr (frG.o3 f1)
    have b1 := pcR_bd hk.2 s1
    have o1 := bdR_o b1
    have hap : (ap Cs s (o.map tkC) s).length = (Cs s).length + o.length := by rw [ap_s]; simp
    have e13 : I1 13 2 + 1 = nI (sk B t p + 1) := by rw [c1.1, nI_1]
    have xn : w ≠ 0 → xw w = nI (tkC w) := fun z => if_neg z
    have x0 : ∀ {z : Prop}, xw w = 0 → (w = 0 → z) → z := by
      intro z e k
      rcases hw with y | y | y
      · exact k y
      · subst y; exact absurd e (by decide)
      · subst y; exact absurd e (by decide)
    have xs : ¬ xw w = 0 → w ≠ 0 ∧ (wl w).length = 1 := fun z => ⟨fun k => z (if_pos k), by unfold wl; rw [if_neg (fun k => z (if_pos k))]; rfl⟩
    -- plus and minus
    have plus : ∀ (op : Nat), (op = 2 ∨ op = 3) → pk B t p = (if op = 2 then 43 else 45) → (xw w = 0 → am_run (d + 4) m_RuleReader_readValue [.ref 16] (am_u I1 13 2 (I1 13 2 + 1)) L (gg Lx ρ) (fun r I' L' G' => am_W am_all (am_run (d + 4)) e_RuleReader_readSum Q 112 [.ref 16, .int (xw op), .int (nI i), .int (pk B t p)] (r.toList ++ ([] : List Value)) I' L' G' 0 0)) ∧ (¬ xw w = 0 → am_run (d + 4) m_RuleReader_readValue [.ref 16] (cWrt (am_u I1 13 2 (I1 13 2 + 1)) (xw w)) L (gg Lx ρ) (fun r I' L' G' => am_W am_all (am_run (d + 4)) e_RuleReader_readSum Q 112 [.ref 16, .int (xw op), .int (nI i), .int (pk B t p)] (r.toList ++ ([] : List Value)) I' L' G' 0 0)) := by
      intro op hop hpk
      have hlt : sk B t p < t := pkc_lt hpk (by split <;> decide)
      have y1 : pk B t p = 43 ∨ pk B t p = 45 := by
        rcases hop with k | k
        · subst k; exact Or.inl hpk
        · subst k; exact Or.inr hpk
      have eop : (if pk B t p = 43 then 2 else 3) = op := by
        rcases hop with k | k
        · subst k; rw [hpk]; rfl
        · subst k; rw [hpk]; rfl
      have hw1 : (wl op).length = 1 := by rcases hop with k | k <;> subst k <;> rfl
      have hvg := valP_g (v := v) hB ht (show sk B t p + 1 ≤ t by omega)
      have es : sumL B t (F + 1) p v w o = if (valP B t (sk B t p + 1) v).1 = 0 then sumL B t F (valP B t (sk B t p + 1) v).2.1 (valP B t (sk B t p + 1) v).2.2.1 op (o ++ wl w ++ [(valP B t (sk B t p + 1) v).2.2.2]) else bad (valP B t (sk B t p + 1) v).1 := by
        rw [sumL, if_pos y1, eop]
      rw [es] at h1 h0
      have go : ∀ {J : am_I}, frG I0 J → tpC J B t → pcR J (sk B t p + 1) v s (ap Cs s ((o ++ wl w).map tkC)) → am_run (d + 4) m_RuleReader_readValue [.ref 16] J L (gg Lx ρ) (fun r I' L' G' => am_W am_all (am_run (d + 4)) e_RuleReader_readSum Q 112 [.ref 16, .int (xw op), .int (nI i), .int (pk B t p)] (r.toList ++ ([] : List Value)) I' L' G' 0 0) := by
        intro J gJ hTJ sJ
        have hlJ : (ap Cs s ((o ++ wl w).map tkC) s).length ≤ sk B t p + 1 := by rw [ap_s]; simp; omega
        refine sp_readValue (d := d) hTJ (by omega) sJ hv hlJ (fun z I2 g2 s2 => ?_) (fun z I2 g2 b2 => ?_)
        · rw [if_pos z] at h1 h0
          obtain ⟨q1, q2, q3, q4, q5⟩ := hvg.2 z
          refine sy_RuleReader_readSum_112 (d := d + 3) _ _ _ ?_
          rw [nI_1]
          refine ih (i + 1) _ _ op _ I2 _ (by omega) (by omega) q2 (g2.T hTJ) ?_ (by omega) ?_ (Or.inr hop) (gJ.tr g2) h1 h0
          · rw [ap_ap] at s2
            rw [List.map_append]; exact s2
          · rw [hw1]; simp only [List.length_append, List.length_cons, List.length_nil]; omega
        · rw [if_neg z] at h0
          refine sy_RuleReader_readSum_112 (d := d + 3) _ _ _ ?_
          rw [nI_1]
          exact lp_rsum_b b2 z hvg.1 (fun I3 g3 b3 => h0 z I3 ((gJ.tr g2).tr g3) b3)
      constructor
      · intro z
        rw [e13]
        refine x0 z (fun k => ?_)
        refine go (g1.tr frG.m) ((frG.m).T hT1) ?_
        have : wl w = [] := if_pos k
        rw [this, List.append_nil]
        exact mv_ok s1
      · intro z
        obtain ⟨k1, k2⟩ := xs z
        rw [e13, xn k1]
        have sm := mv_ok (q := sk B t p + 1) s1
        have wo := wrt_ok (x := tkC w) sm (by rw [hap]; omega)
        refine go ((g1.tr frG.m).tr wo.2) ((frG.m.tr wo.2).T hT1) ?_
        have : wl w = [w] := if_neg k1
        rw [this, List.map_append]
        have := wo.1
        rw [ap_ap] at this
        exact this
    -- times and by
    have times : pk B t p = 42 ∨ pk B t p = 47 → ¬ (pk B t p = 43 ∨ pk B t p = 45) → am_run (d + 4) m_RuleReader_readValue [.ref 16] (am_u I1 13 2 (I1 13 2 + 1)) L (gg Lx ρ) (fun r I' L' G' => am_W am_all (am_run (d + 4)) e_RuleReader_readSum Q 119 [.ref 16, .int (xw w), .int (nI i), .int (pk B t p)] (r.toList ++ ([] : List Value)) I' L' G' 0 0) := by
      intro y2 y1
      have hlt : sk B t p < t := by rcases y2 with k | k <;> exact pkc_lt k (by decide)
      have hvg := valP_g (v := v) hB ht (show sk B t p + 1 ≤ t by omega)
      have es : sumL B t (F + 1) p v w o = if (valP B t (sk B t p + 1) v).1 = 0 then sumL B t F (valP B t (sk B t p + 1) v).2.1 (valP B t (sk B t p + 1) v).2.2.1 w (o ++ [(valP B t (sk B t p + 1) v).2.2.2, if pk B t p = 42 then 4 else 5]) else bad (valP B t (sk B t p + 1) v).1 := by
        rw [sumL, if_neg y1, if_pos y2]
      rw [es] at h1 h0
      rw [e13]
      refine sp_readValue (d := d) ((frG.m).T hT1) (by omega) (mv_ok s1) hv (by rw [hap]; omega) (fun z I2 g2 s2 => ?_) (fun z I2 g2 b2 => ?_)
      · rw [if_pos z] at h1 h0
        obtain ⟨q1, q2, q3, q4, q5⟩ := hvg.2 z
        have b2 := pcR_bd q2 s2
        have o2 := bdR_o b2
        rw [ap_ap] at s2
        have fin : ∀ (c : Nat), c = (if pk B t p = 42 then 4 else 5) → am_W am_all (am_run (d + 4)) e_RuleReader_readSum Q 8 [.ref 16, .int (xw w), .int (nI i + 1), .int (pk B t p)] [] (cWrt I2 (nI (tkC c))) L (gg Lx ρ) 0 0 := by
          intro c hc
          have wo := wrt_ok (x := tkC c) s2 (by rw [ap_s]; simp; omega)
          have hpc := wo.1
          rw [ap_ap] at hpc
          rw [nI_1]
          subst hc
          refine ih (i + 1) _ _ w _ _ _ (by omega) (by omega) q2 ((frG.m.tr (g2.tr wo.2)).T hT1) ?_ (by omega) ?_ hw ((g1.tr frG.m).tr (g2.tr wo.2)) h1 h0
          · rw [List.map_append]; rw [List.append_assoc] at hpc; exact hpc
          · simp only [List.length_append, List.length_cons, List.length_nil]; omega
        refine sy_RuleReader_readSum_119 (d := d + 3) _ _ _ (fun _ => o2.1) (fun _ => o2.2) (fun k => ?_) (fun _ => o2.1) (fun _ => o2.2) (fun k => ?_)
        · exact fin 5 (by rw [if_neg k])
        · exact fin 4 (by rw [if_pos k])
      · rw [if_neg z] at h0
        have o2 := bdR_o b2
        have w2 := fun x => wrt_bd (x := x) b2
        refine sy_RuleReader_readSum_119 (d := d + 3) _ _ _ (fun _ => o2.1) (fun _ => o2.2) (fun k => ?_) (fun _ => o2.1) (fun _ => o2.2) (fun k => ?_)
        · rw [nI_1]; exact lp_rsum_b (w2 _).1 z hvg.1 (fun I3 g3 b3 => h0 z I3 (((g1.tr frG.m).tr (g2.tr (w2 _).2)).tr g3) b3)
        · rw [nI_1]; exact lp_rsum_b (w2 _).1 z hvg.1 (fun I3 g3 b3 => h0 z I3 (((g1.tr frG.m).tr (g2.tr (w2 _).2)).tr g3) b3)
    refine sy_RuleReader_readSum_32 (d := d + 3) _ _ _ _ (fun k z => (plus 2 (Or.inl rfl) k).1 z) (fun _ _ => o1.1) (fun _ _ => o1.2) (fun k z => (plus 2 (Or.inl rfl) k).2 z) (fun _ k z => (plus 3 (Or.inr rfl) k).1 z) (fun _ _ _ => o1.1) (fun _ _ _ => o1.2) (fun _ k z => (plus 3 (Or.inr rfl) k).2 z) (fun k1 k2 k => times (Or.inl k) (fun y => y.elim k1 k2)) (fun k1 k2 _ k => times (Or.inr k) (fun y => y.elim k1 k2)) (fun k1 k2 k3 k4 z => ?_) (fun _ _ _ _ _ => o1.1) (fun _ _ _ _ _ => o1.2) (fun k1 k2 k3 k4 z => ?_)
    · have es : sumL B t (F + 1) p v w o = (0, sk B t p, v, o ++ wl w) := by rw [sumL, if_neg (fun y => y.elim k1 k2), if_neg (fun y => y.elim k3 k4)]
      rw [es] at h1
      refine h1 rfl I1 g1 (x0 z (fun k => ?_))
      have : wl w = [] := if_pos k
      show pcR I1 (sk B t p) v s (ap Cs s ((o ++ wl w).map tkC))
      rw [this, List.append_nil]; exact s1
    · have es : sumL B t (F + 1) p v w o = (0, sk B t p, v, o ++ wl w) := by rw [sumL, if_neg (fun y => y.elim k1 k2), if_neg (fun y => y.elim k3 k4)]
      rw [es] at h1
      obtain ⟨k5, k6⟩ := xs z
      rw [xn k5]
      have wo := wrt_ok (x := tkC w) s1 (by rw [hap]; omega)
      refine h1 rfl _ (g1.tr wo.2) ?_
      have : wl w = [w] := if_neg k5
      show pcR _ (sk B t p) v s (ap Cs s ((o ++ wl w).map tkC))
      rw [this, List.map_append]
      have := wo.1
      rw [ap_ap] at this
      exact this
theorem sp_readSum {I : am_I} {L : am_L} {B : Nat → Nat} {t p v s : Nat} {Cs : Nat → List Nat} (hT : tpC I B t) (hp : p ≤ t) (hs : pcR I p v s Cs) (hv : v ≤ 60) (hl : (Cs s).length ≤ p)
    (h1 : (sumP B t p v).1 = 0 → ∀ I', frG I I' → pcR I' (sumP B t p v).2.1 (sumP B t p v).2.2.1 s (ap Cs s ((sumP B t p v).2.2.2.map tkC)) → Q none I' L (gg Lx ρ))
    (h0 : ¬ (sumP B t p v).1 = 0 → ∀ I', frG I I' → bdR I' t (sumP B t p v).1 → Q none I' L (gg Lx ρ)) : am_run (d + 5) m_RuleReader_readSum [.ref 16] I L (gg Lx ρ) Q := by
  have hB := fun i hi => (hT.2.2 i hi).2
  have ht := hT.2.1
  have hvg := valP_g (v := v) hB ht hp
  refine run_in rfl rfl ⟨rfl, rfl⟩ (sy_RuleReader_readSum_0 (d := d + 3) ?_)
  refine sp_readValue (d := d) hT hp hs hv hl (fun z I1 g1 s1 => ?_) (fun z I1 g1 b1 => ?_)
  · have es : sumP B t p v = sumL B t 401 (valP B t p v).2.1 (valP B t p v).2.2.1 0 [(valP B t p v).2.2.2] := by unfold sumP; rw [if_pos z]
    rw [es] at h1 h0
    obtain ⟨q1, q2, q3, q4, q5⟩ := hvg.2 z
    refine sy_RuleReader_readSum_6 (d := d + 3) _ _ _ ?_
    exact lp_rsum 401 0 _ _ 0 _ I1 _ (by omega) (by omega) q2 (g1.T hT) s1 (by omega) (by show _ + 1 + 0 ≤ _; omega) (Or.inl rfl) g1 h1 h0
  · have es : sumP B t p v = bad (valP B t p v).1 := by unfold sumP; rw [if_neg z]
    rw [es] at h0
    refine sy_RuleReader_readSum_6 (d := d + 3) _ _ _ ?_
    exact lp_rsum_b (i := 0) b1 z hvg.1 (fun I3 g3 b3 => h0 z I3 (g1.tr g3) b3)
theorem sp_readSum_b {I : am_I} {L : am_L} {t e : Nat} (hb : bdR I t e) (he : ¬ e = 0) (he2 : e < 4000) (h : ∀ I', frG I I' → bdR I' t e → Q none I' L (gg Lx ρ)) : am_run (d + 5) m_RuleReader_readSum [.ref 16] I L (gg Lx ρ) Q := by
  refine run_in rfl rfl ⟨rfl, rfl⟩ (sy_RuleReader_readSum_0 (d := d + 3) ?_)
  refine sp_readValue_b hb he he2 ?_
  refine sy_RuleReader_readSum_6 (d := d + 3) _ _ _ ?_
  exact lp_rsum_b (i := 0) hb he he2 h
end RCS
