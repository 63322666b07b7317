/-! ===== rule: the class's signs, facts, tests ===== -/
section RCF
variable {d Lx : Nat} {ρ : List (Nat × Nat)} {Q : am_Q}
theorem rs7 {C : am_C} {I J : am_I} {L : am_L} {B : Nat → Nat} {t q : Nat} {s0 : Int32} {x1 x2 x3 : Value} (hC : C = am_run (d + 2)) (hT : tpC I B t) (hq : I 13 2 = nI q) (hJ : cCnt I (nI q) = J) (gJ : frG I J) (hlt : s0 = 60 ∨ s0 = 61 ∨ s0 = 62 → q < t)
    (h60 : s0 = 60 → Q (some (.int (nI (tkC (if eqs B t q = true then 7 else 6))))) (am_u J 13 2 (nI (if eqs B t q = true then q + 2 else q + 1))) L (gg Lx ρ))
    (h61 : s0 = 61 → Q (some (.int (nI (tkC 8)))) (am_u J 13 2 (nI (q + 1))) L (gg Lx ρ))
    (h62 : s0 = 62 → Q (some (.int (nI (tkC (if eqs B t q = true then 9 else 10))))) (am_u J 13 2 (nI (if eqs B t q = true then q + 2 else q + 1))) L (gg Lx ρ))
    (hn : ¬ s0 = 60 → ¬ s0 = 61 → ¬ s0 = 62 → Q (some (.int 100015)) (cFail I (nI q) 0) L (gg Lx ρ)) : am_W am_all C e_RuleReader_readSign Q 7 [.ref 16, x1, x2, x3] [.int s0] I L (gg Lx ρ) 0 0 := by
  subst hC
  have hTJ := gJ.T hT
  have ht := hT.2.1
  have eq1 : nI q + 1 = nI (q + 1) := nI_1 q
  have eq2 : nI (q + 1) + 1 = nI (q + 2) := nI_1 (q + 1)
  -- the byte behind
  have no : s0 = 60 ∨ s0 = 61 ∨ s0 = 62 → ¬ nI (q + 1) < J 13 1 → eqs B t q = false := by
    intro a z
    rw [hTJ.1] at z
    exact decide_eq_false (fun k => z (nI_lt k.1 (by omega)))
  have no4 : s0 = 60 ∨ s0 = 61 ∨ s0 = 62 → nI (q + 1) < J 13 1 → q + 1 < t := by
    intro a z
    have := hlt a
    rw [hTJ.1] at z
    exact Decidable.byContradiction fun k => nI_nlt (by omega) (by omega) z
  have eb : s0 = 60 ∨ s0 = 61 ∨ s0 = 62 → nI (q + 1) < J 13 1 → (J 14 (nI (q + 1)).toNatClampNeg = 61 ↔ eqs B t q = true) := by
    intro a z
    have h := no4 a z
    rw [nI_clamp (by omega), (hTJ.2.2 _ h).1]
    have := (hTJ.2.2 _ h).2
    constructor
    · intro k; exact decide_eq_true ⟨h, (nI_eq (b := 61) (by omega) (by decide)).mp k⟩
    · intro k; rw [(of_decide_eq_true k).2]; rfl
  have lt4 : s0 = 60 ∨ s0 = 61 ∨ s0 = 62 → nI (q + 1) < J 13 1 → nI (q + 1) < 400 := fun a z => nI_lt (b := 400) (by have := no4 a z; omega) (by decide)
  have w60 : s0 = 60 → eqs B t q = false → Q (some (.int 100013)) (am_u J 13 2 (nI (q + 1))) L (gg Lx ρ) := fun a k => by
    have := h60 a; rw [k] at this; exact this
  have w60t : s0 = 60 → eqs B t q = true → Q (some (.int 100014)) (am_u J 13 2 (nI (q + 2))) L (gg Lx ρ) := fun a k => by
    have := h60 a; rw [k] at this; exact this
  have w62 : s0 = 62 → eqs B t q = false → Q (some (.int 100017)) (am_u J 13 2 (nI (q + 1))) L (gg Lx ρ) := fun a k => by
    have := h62 a; rw [k] at this; exact this
  have w62t : s0 = 62 → eqs B t q = true → Q (some (.int 100016)) (am_u J 13 2 (nI (q + 2))) L (gg Lx ρ) := fun a k => by
    have := h62 a; rw [k] at this; exact this
  have nf : ∀ {b : Bool}, ¬ b = true → b = false := fun {b} k => by cases b with | false => rfl | true => exact absurd rfl k
  refine sy_RuleReader_readSign_7 _ _ _ _ ?_ ?_ ?_ ?_ ?_ ?_ ?_ ?_ ?_ ?_ ?_ ?_ ?_
  · intro a _ z; rw [hq, hJ, eq1] at *; exact w60 a (no (Or.inl a) z)
  · intro a _ z y; rw [hq, hJ, eq1] at *; exact absurd (lt4 (Or.inl a) z) y
  · intro a _ z y; rw [hq, hJ, eq1] at *; have := no4 (Or.inl a) z; exact vp_in_nI (by omega) (by decide)
  · intro a _ z y x; rw [hq, hJ, eq1] at *; exact w60 a (nf (fun k => x ((eb (Or.inl a) z).mpr k)))
  · intro a _ z y x; rw [hq, hJ, eq1] at *; rw [am_u_uu, eq2]; exact w60t a ((eb (Or.inl a) z).mp x)
  · intro a b; rw [a] at b; exact absurd b (by decide)
  · intro _ a; rw [hq, hJ, eq1] at *; exact h61 a
  · intro _ _ a z; rw [hq, hJ, eq1] at *; exact w62 a (no (Or.inr (Or.inr a)) z)
  · intro _ _ a z y; rw [hq, hJ, eq1] at *; exact absurd (lt4 (Or.inr (Or.inr a)) z) y
  · intro _ _ a z y; rw [hq, hJ, eq1] at *; have := no4 (Or.inr (Or.inr a)) z; exact vp_in_nI (by omega) (by decide)
  · intro _ _ a z y x; rw [hq, hJ, eq1] at *; exact w62 a (nf (fun k => x ((eb (Or.inr (Or.inr a)) z).mpr k)))
  · intro _ _ a z y x; rw [hq, hJ, eq1] at *; rw [am_u_uu, eq2]; exact w62t a ((eb (Or.inr (Or.inr a)) z).mp x)
  · intro a b c; rw [hq]; exact hn a b c
theorem sp_readSign {I : am_I} {L : am_L} {B : Nat → Nat} {t p v s : Nat} {Cs : Nat → List Nat} (hT : tpC I B t) (hp : p ≤ t) (hs : pcR I p v s Cs) (hv : v ≤ 60)
    (h1 : (sgnP B t p v).1 = 0 → ∀ I', frG I I' → pcR I' (sgnP B t p v).2.1 (sgnP B t p v).2.2.1 s Cs → Q (some (.int (nI (tkC (sgnP B t p v).2.2.2)))) I' L (gg Lx ρ))
    (h0 : ¬ (sgnP B t p v).1 = 0 → ∀ I' y, frG I I' → bdR I' t (sgnP B t p v).1 → Q (some (.int y)) I' L (gg Lx ρ)) : am_run (d + 3) m_RuleReader_readSign [.ref 16] I L (gg Lx ρ) Q := by
  have ht := hT.2.1
  have hk := sk_le (B := B) hp
  refine run_in rfl rfl ⟨rfl, rfl⟩ (sy_RuleReader_readSign_0 (d := d) ?_)
  refine sp_peek (d := d + 1) hT hp hs.1 (fun I1 f1 c1 => ?_)
  have hT1 := tpC_fr f1 hT
  have s1 := pcR_13 f1 c1 hs
  have g1 := frG.o3 f1
  have hq2 : sk B t p < t → (if eqs B t (sk B t p) = true then sk B t p + 2 else sk B t p + 1) ≤ t := by
    intro h
    split
    · rename_i k; have := (of_decide_eq_true k).1; omega
    · omega
  have fl : ∀ (q' tok : Nat), q' ≤ t → sgnP B t p v = (mk3 v (sk B t p), q', v + 1, tok) → Q (some (.int (nI (tkC tok)))) (am_u (cCnt I1 (nI (sk B t p))) 13 2 (nI q')) L (gg Lx ρ) := by
    intro q' tok hq' e
    rw [e] at h1 h0
    by_cases y : v < 60
    · have g := cnt_ok (q := nI (sk B t p)) s1 y
      exact h1 (show mk3 v (sk B t p) = 0 from if_pos y) _ ((g1.tr g.2).tr frG.m) (mv_ok g.1)
    · have g := cnt_full (q := sk B t p) hk.2 s1 y hv
      have em : mk3 v (sk B t p) = 1 + 8 * sk B t p + 3 := if_neg y
      exact h0 (by show ¬ mk3 v (sk B t p) = 0; rw [em]; omega) _ _ ((g1.tr g.2).tr frG.m) (by show bdR _ t (mk3 v (sk B t p)); rw [em]; exact mv_bd g.1 hq')
  have gJ : frG I1 (cCnt I1 (nI (sk B t p))) := by
    by_cases y : v < 60
    · exact (cnt_ok (q := nI (sk B t p)) s1 y).2
    · exact (cnt_full (q := sk B t p) hk.2 s1 y hv).2
  refine rs7 rfl hT1 c1.1 rfl gJ (fun k => by rcases k with k | k | k <;> exact pkc_lt k (by decide)) (fun k => ?_) (fun k => ?_) (fun k => ?_) (fun k1 k2 k3 => ?_)
  · exact fl _ _ (hq2 (pkc_lt k (by decide))) (by unfold sgnP; rw [if_pos k])
  · have h := pkc_lt k (by decide)
    exact fl _ _ (by omega) (by unfold sgnP; rw [if_neg (by rw [k]; decide), if_pos k])
  · exact fl _ _ (hq2 (pkc_lt k (by decide))) (by unfold sgnP; rw [if_neg (by rw [k]; decide), if_neg (by rw [k]; decide), if_pos k])
  · have e : sgnP B t p v = (1 + 8 * sk B t p, 0, 0, 0) := by unfold sgnP; rw [if_neg k1, if_neg k2, if_neg k3]
    rw [e] at h0
    have g := bdR_f (q := sk B t p) (w := 0) (pcR_bd hk.2 s1) (by decide)
    exact h0 (by show ¬ 1 + 8 * sk B t p = 0; omega) _ _ (g1.tr g.2) g.1
theorem sp_readSign_b {I : am_I} {L : am_L} {B : Nat → Nat} {t e : Nat} (hT : tpC I B t) (hb : bdR I t e) (he : ¬ e = 0) (he2 : e < 4000)
    (h : ∀ I' y, frG I I' → bdR I' t e → Q (some (.int y)) I' L (gg Lx ρ)) : am_run (d + 3) m_RuleReader_readSign [.ref 16] I L (gg Lx ρ) Q := by
  obtain ⟨⟨p, hp, h1⟩, _⟩ := id hb
  have hk := sk_le (B := B) hp
  refine run_in rfl rfl ⟨rfl, rfl⟩ (sy_RuleReader_readSign_0 (d := d) ?_)
  refine sp_peek (d := d + 1) hT hp h1 (fun I1 f1 c1 => ?_)
  have hT1 := tpC_fr f1 hT
  have b1 := bdR_13 f1 hk.2 c1 hb
  have g1 := frG.o3 f1
  have g := cnt_bd (q := sk B t p) b1 (by omega) he
  have hq2 : sk B t p < t → (if eqs B t (sk B t p) = true then sk B t p + 2 else sk B t p + 1) ≤ t := by
    intro h
    split
    · rename_i k; have := (of_decide_eq_true k).1; omega
    · omega
  refine rs7 rfl hT1 c1.1 rfl g.2 (fun k => by rcases k with k | k | k <;> exact pkc_lt k (by decide)) (fun k => ?_) (fun k => ?_) (fun k => ?_) (fun k1 k2 k3 => ?_)
  · exact h _ _ ((g1.tr g.2).tr frG.m) (mv_bd g.1 (hq2 (pkc_lt k (by decide))))
  · have hl := pkc_lt k (by decide)
    exact h _ _ ((g1.tr g.2).tr frG.m) (mv_bd g.1 (by omega))
  · exact h _ _ ((g1.tr g.2).tr frG.m) (mv_bd g.1 (hq2 (pkc_lt k (by decide))))
  · have g := bdR_f (q := sk B t p) (w := 0) b1 (by omega)
    have ee : ff e (1 + 8 * sk B t p + 0) = e := if_neg he
    rw [ee] at g
    exact h _ _ (g1.tr g.2) g.1
theorem sp_readFact_b {I : am_I} {L : am_L} {t e : Nat} {x : Int32} (hb : bdR I t e) (he : ¬ e = 0) (he2 : e < 4000) (h : Q none I L (gg Lx ρ)) : am_run (d + 2) m_RuleReader_readFact [.ref 16, .int x] I L (gg Lx ρ) Q := by
  obtain ⟨⟨p, hp, h1⟩, _⟩ := id hb
  refine run_in rfl rfl ⟨rfl, rfl⟩ (sy_RuleReader_readFact_0 (d := d) _ (fun z => ?_) (fun _ => h))
  rw [h1.2] at z
  exact absurd ((nI_eq (b := 0) (by omega) (by decide)).mp z) he
theorem lp_rtest_b {I : am_I} {L : am_L} {t e i : Nat} {x1 x2 : Int32} (hb : bdR I t e) (he : ¬ e = 0) (he2 : e < 4000)
    (h : ∀ I', frG I I' → bdR I' t e → Q none I' L (gg Lx ρ)) : am_W am_all (am_run (d + 1)) e_RuleReader_readTest Q 9 [.ref 16, .int x1, .int x2, .int (nI i)] [] I L (gg Lx ρ) 0 0 := by
  obtain ⟨⟨p, hp, h1⟩, _⟩ := id hb
  have o := bdR_o hb
  have w := wrt_bd (x := 100019) hb
  refine sy_RuleReader_readTest_9 _ _ _ (fun _ _ => h I frG.rf hb) (fun _ _ => o.1) (fun _ _ => o.2) (fun _ _ => h _ w.2 w.1) (fun _ _ _ => h I frG.rf hb) (fun _ _ _ => o.1) (fun _ _ _ => o.2) (fun _ _ _ => h _ w.2 w.1) (fun _ z => ?_)
  rw [h1.2] at z
  exact absurd ((nI_eq (b := 0) (by omega) (by decide)).mp z) he
theorem sp_readTest_b {I : am_I} {L : am_L} {t e : Nat} {x : Int32} (hb : bdR I t e) (he : ¬ e = 0) (he2 : e < 4000) (h : ∀ I', frG I I' → bdR I' t e → Q none I' L (gg Lx ρ)) : am_run (d + 3) m_RuleReader_readTest [.ref 16, .int x] I L (gg Lx ρ) Q := by
  refine run_in rfl rfl ⟨rfl, rfl⟩ (sy_RuleReader_readTest_0 (d := d + 1) _ ?_)
  refine sp_readFact_b (d := d) hb he he2 ?_
  refine sy_RuleReader_readTest_7 (d := d + 1) _ _ _ ?_
  exact lp_rtest_b (i := 0) hb he he2 h
/-- how a fact reader of the class is to behave -/
def okF (d' Lx : Nat) (ρ : List (Nat × Nat)) (x : Int32) (B : Nat → Nat) (t : Nat) (f : FT) : Prop := ∀ {Q : am_Q} {I : am_I} {L : am_L} {p v s : Nat} {Cs : Nat → List Nat}, tpC I B t → p ≤ t → pcR I p v s Cs → v ≤ 60 → (Cs s).length ≤ p →
    ((f p v).1 = 0 → ∀ I', frG I I' → pcR I' (f p v).2.1 (f p v).2.2.1 s (ap Cs s ((f p v).2.2.2.map tkC)) → Q none I' L (gg Lx ρ)) →
    (¬ (f p v).1 = 0 → ∀ I', frG I I' → bdR I' t (f p v).1 → Q none I' L (gg Lx ρ)) → am_run d' m_RuleReader_readFact [.ref 16, .int x] I L (gg Lx ρ) Q
theorem w_And : am_strs 10 = wAnd.map nI := by decide
theorem w_Or : am_strs 11 = wOr.map nI := by decide
theorem w_Not : am_strs 8 = wNot.map nI := by decide
theorem lp_rtest {L : am_L} {B : Nat → Nat} {t s : Nat} {x : Int32} {f : FT} {Cs : Nat → List Nat} {I0 : am_I} (hf : okF (d + 3) Lx ρ x B t f) (hg : ∀ p v, p ≤ t → gd t true p v (f p v)) : ∀ F i b p v o I, i + F = 401 → i < p → p ≤ t → tpC I B t → pcR I p v s (ap Cs s (o.map tkC)) → v ≤ 60 → (Cs s).length + o.length + (o13 b).length ≤ p → frG I0 I →
    ((tstL B t f F b p v o).1 = 0 → ∀ I', frG I0 I' → pcR I' (tstL B t f F b p v o).2.1 (tstL B t f F b p v o).2.2.1 s (ap Cs s ((tstL B t f F b p v o).2.2.2.map tkC)) → Q none I' L (gg Lx ρ)) →
    (¬ (tstL B t f F b p v o).1 = 0 → ∀ I', frG I0 I' → bdR I' t (tstL B t f F b p v o).1 → Q none I' L (gg Lx ρ)) →
    am_W am_all (am_run (d + 3)) e_RuleReader_readTest Q 9 [.ref 16, .int x, .int (bI (b = true)), .int (nI i)] [] I L (gg Lx ρ) 0 0 := by
  intro F
  induction F with
  | zero => intro i b p v o I h1 h2 h3 hT; have := hT.2.1; omega
  | succ F ih =>
    intro i b p v o I hi hip hp hT hs hv hl g0 h1 h0
    have ht := hT.2.1
    have hk := sk_le (B := B) hp
    have hid := sk_id (B := B) hp ht
    have i400 : nI i < 400 := nI_lt (b := 400) (by omega) (by decide)
    have hap : (ap Cs s (o.map tkC) s).length = (Cs s).length + o.length := by rw [ap_s]; simp
    refine sy_RuleReader_readTest_9 (d := d + 2) _ _ _ (fun z => absurd i400 z) (fun z => absurd i400 z) (fun z => absurd i400 z) (fun z => absurd i400 z) (fun _ z => absurd hs.1.2 z) (fun _ z => absurd hs.1.2 z) (fun _ z => absurd hs.1.2 z) (fun _ z => absurd hs.1.2 z) (fun _ _ => ?_)
    refine sp_passWord (d := d + 1) hT hp (by decide) w_And (by decide) (by decide) hs.1 (fun I1 f1 c1 => ?_)
    have hT1 := tpC_fr f1 hT
    have g1 := g0.tr (frG.o3 f1)
    by_cases y1 : isW B t (sk B t p) wAnd = true
    · rw [if_pos y1] at c1
      have hq : sk B t p + 3 ≤ t := isW_le hk.2 y1
      have s1 := pcR_13 f1 c1 hs
      have hgf := hg (sk B t p + 3) v hq
      have es : tstL B t f (F + 1) b p v o = bnd (f (sk B t p + 3) v) (fun p1 v1 o1 => tstL B t f F b p1 v1 (o ++ o1 ++ [12])) := by rw [tstL, if_pos y1]
      rw [es] at h1 h0
      refine sy_RuleReader_readTest_35 (d := d + 2) _ _ _ _ (fun z => absurd y1 (bI0 z)) (fun _ => ?_)
      refine hf hT1 hq s1 hv (by rw [hap]; omega) (fun z I2 g2 s2 => ?_) (fun z I2 g2 b2 => ?_)
      · obtain ⟨q1, q2, q3, q4, q5, q6⟩ := hgf.2 z
        have eb : bnd (f (sk B t p + 3) v) (fun p1 v1 o1 => tstL B t f F b p1 v1 (o ++ o1 ++ [12])) = tstL B t f F b (f (sk B t p + 3) v).2.1 (f (sk B t p + 3) v).2.2.1 (o ++ (f (sk B t p + 3) v).2.2.2 ++ [12]) := if_pos z
        rw [eb] at h1 h0
        have o2 := bdR_o (pcR_bd q2 s2)
        rw [ap_ap] at s2
        have wo := wrt_ok (x := tkC 12) s2 (by rw [ap_s]; simp; omega)
        refine sy_RuleReader_readTest_43 (d := d + 2) _ _ _ o2.1 o2.2 ?_
        rw [nI_1]
        have sw := wo.1
        rw [ap_ap] at sw
        refine ih (i + 1) b _ _ _ _ (by omega) (by omega) q2 ((g2.tr wo.2).T hT1) ?_ q5 ?_ (g1.tr (g2.tr wo.2)) h1 h0
        · rw [List.map_append, List.map_append]; exact sw
        · simp only [List.length_append, List.length_cons, List.length_nil]; omega
      · have eb : bnd (f (sk B t p + 3) v) (fun p1 v1 o1 => tstL B t f F b p1 v1 (o ++ o1 ++ [12])) = bad (f (sk B t p + 3) v).1 := if_neg z
        rw [eb] at h0
        have o2 := bdR_o b2
        have w2 := wrt_bd (x := 100018) b2
        refine sy_RuleReader_readTest_43 (d := d + 2) _ _ _ o2.1 o2.2 ?_
        rw [nI_1]
        exact lp_rtest_b w2.1 z hgf.1 (fun I3 g3 b3 => h0 z I3 ((g1.tr (g2.tr w2.2)).tr g3) b3)
    · rw [if_neg y1] at c1
      have s1 := pcR_13 f1 c1 hs
      refine sy_RuleReader_readTest_35 (d := d + 2) _ _ _ _ (fun _ => ?_) (fun z => absurd (bI_f y1) z)
      refine sp_passWord (d := d + 1) hT1 hk.2 (by decide) w_Or (by decide) (by decide) c1 (fun I2 f2 c2 => ?_)
      rw [hid] at c2
      rw [hid]
      have hT2 := tpC_fr f2 hT1
      have g2 := g1.tr (frG.o3 f2)
      by_cases y2 : isW B t (sk B t p) wOr = true
      · rw [if_pos y2] at c2
        have hq : sk B t p + 2 ≤ t := isW_le hk.2 y2
        have s2 := pcR_13 f2 c2 s1
        have o2 := bdR_o (pcR_bd hq s2)
        have hgf := hg (sk B t p + 2) v hq
        have es : tstL B t f (F + 1) b p v o = bnd (f (sk B t p + 2) v) (fun p1 v1 o1 => tstL B t f F true p1 v1 (o ++ o13 b ++ o1)) := by rw [tstL, if_neg y1, if_pos y2]
        rw [es] at h1 h0
        have go : ∀ {J : am_I}, frG I0 J → tpC J B t → pcR J (sk B t p + 2) v s (ap Cs s ((o ++ o13 b).map tkC)) → am_run (d + 3) m_RuleReader_readFact [.ref 16, .int x] J L (gg Lx ρ) (fun r I' L' G' => am_W am_all (am_run (d + 3)) e_RuleReader_readTest Q 81 [.ref 16, .int x, .int 1, .int (nI i)] (r.toList ++ ([] : List Value)) I' L' G' 0 0) := by
          intro J gJ hTJ sJ
          refine hf hTJ hq sJ hv (by rw [ap_s]; simp; omega) (fun z I3 g3 s3 => ?_) (fun z I3 g3 b3 => ?_)
          · obtain ⟨q1, q2, q3, q4, q5, q6⟩ := hgf.2 z
            have eb : bnd (f (sk B t p + 2) v) (fun p1 v1 o1 => tstL B t f F true p1 v1 (o ++ o13 b ++ o1)) = tstL B t f F true (f (sk B t p + 2) v).2.1 (f (sk B t p + 2) v).2.2.1 (o ++ o13 b ++ (f (sk B t p + 2) v).2.2.2) := if_pos z
            rw [eb] at h1 h0
            rw [ap_ap] at s3
            refine sy_RuleReader_readTest_81 (d := d + 2) _ _ _ ?_
            rw [nI_1]
            refine ih (i + 1) true _ _ _ _ (by omega) (by omega) q2 (g3.T hTJ) ?_ q5 ?_ (gJ.tr g3) h1 h0
            · rw [List.map_append]; exact s3
            · simp only [List.length_append]; show _ + _ + 1 ≤ _; omega
          · have eb : bnd (f (sk B t p + 2) v) (fun p1 v1 o1 => tstL B t f F true p1 v1 (o ++ o13 b ++ o1)) = bad (f (sk B t p + 2) v).1 := if_neg z
            rw [eb] at h0
            refine sy_RuleReader_readTest_81 (d := d + 2) _ _ _ ?_
            rw [nI_1]
            exact lp_rtest_b b3 z hgf.1 (fun I4 g4 b4 => h0 z I4 ((gJ.tr g3).tr g4) b4)
        refine sy_RuleReader_readTest_61 (d := d + 2) _ _ _ _ (fun z => absurd y2 (bI0 z)) (fun z => absurd y2 (bI0 z)) (fun z => absurd y2 (bI0 z)) (fun z => absurd y2 (bI0 z)) (fun _ z => ?_) (fun _ _ => o2.1) (fun _ _ => o2.2) (fun _ z => ?_)
        · have hb : ¬ b = true := bI0 z
          refine go g2 hT2 ?_
          have : o13 b = [] := if_neg hb
          rw [this, List.append_nil]; exact s2
        · have hb : b = true := bI1 z
          have e1 : o13 b = [13] := if_pos hb
          have wo := wrt_ok (x := tkC 13) s2 (by rw [hap]; rw [e1] at hl; have : [13].length = 1 := rfl; omega)
          refine go (g2.tr wo.2) (wo.2.T hT2) ?_
          have sw := wo.1
          rw [ap_ap] at sw
          rw [e1, List.map_append]; exact sw
      · rw [if_neg y2] at c2
        have s2 := pcR_13 f2 c2 s1
        have o2 := bdR_o (pcR_bd hk.2 s2)
        have es : tstL B t f (F + 1) b p v o = (0, sk B t p, v, o ++ o13 b) := by rw [tstL, if_neg y1, if_neg y2]
        rw [es] at h1
        refine sy_RuleReader_readTest_61 (d := d + 2) _ _ _ _ (fun _ z => ?_) (fun _ _ => o2.1) (fun _ _ => o2.2) (fun _ z => ?_) (fun z => absurd (bI_f y2) z) (fun z => absurd (bI_f y2) z) (fun z => absurd (bI_f y2) z) (fun z => absurd (bI_f y2) z)
        · have hb : ¬ b = true := bI0 z
          have e1 : o13 b = [] := if_neg hb
          refine h1 rfl I2 g2 ?_
          show pcR I2 (sk B t p) v s (ap Cs s ((o ++ o13 b).map tkC))
          rw [e1, List.append_nil]; exact s2
        · have hb : b = true := bI1 z
          have e1 : o13 b = [13] := if_pos hb
          have wo := wrt_ok (x := tkC 13) s2 (by rw [hap]; rw [e1] at hl; have : [13].length = 1 := rfl; omega)
          refine h1 rfl _ (g2.tr wo.2) ?_
          show pcR _ (sk B t p) v s (ap Cs s ((o ++ o13 b).map tkC))
          have sw := wo.1
          rw [ap_ap] at sw
          rw [e1, List.map_append]; exact sw
theorem sp_readTest {I : am_I} {L : am_L} {B : Nat → Nat} {t p v s : Nat} {x : Int32} {f : FT} {Cs : Nat → List Nat} (hf : okF (d + 3) Lx ρ x B t f) (hg : ∀ p v, p ≤ t → gd t true p v (f p v)) (hT : tpC I B t) (hp : p ≤ t) (hs : pcR I p v s Cs) (hv : v ≤ 60) (hl : (Cs s).length ≤ p)
    (h1 : (testF B t f p v).1 = 0 → ∀ I', frG I I' → pcR I' (testF B t f p v).2.1 (testF B t f p v).2.2.1 s (ap Cs s ((testF B t f p v).2.2.2.map tkC)) → Q none I' L (gg Lx ρ))
    (h0 : ¬ (testF B t f p v).1 = 0 → ∀ I', frG I I' → bdR I' t (testF B t f p v).1 → Q none I' L (gg Lx ρ)) : am_run (d + 4) m_RuleReader_readTest [.ref 16, .int x] I L (gg Lx ρ) Q := by
  have hgf := hg p v hp
  refine run_in rfl rfl ⟨rfl, rfl⟩ (sy_RuleReader_readTest_0 (d := d + 2) _ ?_)
  refine hf hT hp hs hv hl (fun z I1 g1 s1 => ?_) (fun z I1 g1 b1 => ?_)
  · obtain ⟨q1, q2, q3, q4, q5, q6⟩ := hgf.2 z
    have es : testF B t f p v = tstL B t f 401 false (f p v).2.1 (f p v).2.2.1 (f p v).2.2.2 := if_pos z
    rw [es] at h1 h0
    refine sy_RuleReader_readTest_7 (d := d + 2) _ _ _ ?_
    exact lp_rtest hf hg 401 0 false _ _ _ I1 (by omega) (by omega) q2 (g1.T hT) s1 q5 (by show _ + _ + 0 ≤ _; omega) g1 h1 h0
  · have es : testF B t f p v = bad (f p v).1 := if_neg z
    rw [es] at h0
    refine sy_RuleReader_readTest_7 (d := d + 2) _ _ _ ?_
    exact lp_rtest_b (i := 0) b1 z hgf.1 (fun I3 g3 b3 => h0 z I3 (g1.tr g3) b3)
end RCF
