/-! ===== rule: the reference's tests ===== -/
def da (a : Bool) : List Nat := if a = true then [12] else []
def pd (a b : Bool) : List Nat := da a ++ o13 b
def A1 (d Lx : Nat) (ρ : List (Nat × Nat)) (Q : am_Q) (L : am_L) (I : am_I) (x2 : Value) : Prop :=
  am_W am_all (am_run (d + 7)) e_Model_closes (fun r I' L' G' => am_W am_all (am_run (d + 8)) e_Model_tested Q 29 [.ref 186, .int 1, x2] (r.toList ++ ([] : List Value)) I' L' G' 0 0) 5 [.ref 186] [] I L (gg Lx ρ) 0 0
def Mf (d Lx : Nat) (ρ : List (Nat × Nat)) (Q : am_Q) (L : am_L) (I : am_I) (x x2 : Value) : Prop :=
  am_W am_all (am_run (d + 7)) e_Model_fact (fun r I' L' G' => am_W am_all (am_run (d + 8)) e_Model_tested Q 20 [.ref 186, .int 1, x2] (r.toList ++ ([] : List Value)) I' L' G' 0 0) 2 [.ref 186, .int 1, x] [] I L (gg Lx ρ) 0 0
def CF (d Lx : Nat) (ρ : List (Nat × Nat)) (Q : am_Q) (L : am_L) (B : Nat → Nat) (t tx : Nat) (I0 : am_I) (k : Nat) (f : FT) : Prop := ∀ (p v : Nat) (T st : List Nat) (I : am_I) (x x2 : Value), p ≤ t → tpM I B t → pmR I p v tx T → skR I st → dep st + k = 10 → (∀ x ∈ st, x < 200) → v ≤ 60 → T.length + st.length ≤ p → frZ tx I0 I →
  ((f p v).1 = 0 → ∀ I' x2', frZ tx I0 I' → pmR I' (f p v).2.1 (f p v).2.2.1 tx (setl 3 st (T ++ (f p v).2.2.2)).2 → skR I' (setl 3 st (T ++ (f p v).2.2.2)).1 → A1 d Lx ρ Q L I' x2') →
  (¬ (f p v).1 = 0 → ∀ I', frZ tx I0 I' → I' 186 15 = nI (f p v).1 → Q (some (.int 0)) I' L (gg Lx ρ)) → Mf d Lx ρ Q L I x x2
theorem setl_2 {a b : Bool} {bs X : List Nat} (hbs : ∀ j X, 1 ≤ j → setl j bs X = (bs, X)) : setl 2 (pd a b ++ bs) X = (o13 b ++ bs, X ++ da a) := by
  cases a <;> cases b
  · show setl 2 bs X = (bs, X ++ []); rw [hbs 2 X (by decide), List.append_nil]
  · show setl 2 (13 :: bs) X = (13 :: bs, X ++ []); rw [List.append_nil]; rfl
  · show setl 2 bs (X ++ [12]) = (bs, X ++ [12]); rw [hbs 2 _ (by decide)]
  · rfl
theorem setl_1 {a b : Bool} {bs X : List Nat} (hbs : ∀ j X, 1 ≤ j → setl j bs X = (bs, X)) : setl 1 (pd a b ++ bs) X = (bs, X ++ da a ++ o13 b) := by
  cases a <;> cases b
  · show setl 1 bs X = (bs, X ++ [] ++ []); rw [hbs 1 X (by decide), List.append_nil, List.append_nil]
  · show setl 1 bs (X ++ [13]) = (bs, X ++ [] ++ [13]); rw [hbs 1 _ (by decide), List.append_nil]
  · show setl 1 bs (X ++ [12]) = (bs, X ++ [12] ++ []); rw [hbs 1 _ (by decide), List.append_nil]
  · show setl 1 bs (X ++ [12] ++ [13]) = (bs, X ++ [12] ++ [13]); rw [hbs 1 _ (by decide)]
theorem pd_x {a b : Bool} {bs : List Nat} (h : ∀ x ∈ bs, x < 200) : ∀ x ∈ pd a b ++ bs, x < 200 := by
  intro x hx
  rcases List.mem_append.mp hx with k | k
  · revert k; cases a <;> cases b <;> simp [pd, da, o13] <;> omega
  · exact h x k
theorem pd_i {a b : Bool} {bs : List Nat} : 91 ∈ pd a b ++ bs ↔ 91 ∈ bs := by
  cases a <;> cases b <;> simp [pd, da, o13]
theorem dep_pd {a b : Bool} {bs : List Nat} : dep (pd a b ++ bs) = dep bs := by
  cases a <;> cases b <;> simp [pd, da, o13, dep]
theorem pk_w {B : Nat → Nat} {t p x : Nat} {w : List Nat} (h : isW B t (sk B t p) (x :: w) = true) : pk B t p = nI x := by
  have := (of_decide_eq_true h).1 0 (by simp)
  rw [Nat.add_zero] at this
  unfold pk
  rw [if_pos this.1, this.2]; rfl
section RMW
variable {d Lx : Nat} {ρ : List (Nat × Nat)} {Q : am_Q} {L : am_L} {B : Nat → Nat} {t tx : Nat} {I0 : am_I}
theorem k_And : (6385252 : Int64) = lN (pack wAnd) := by decide
theorem k_Or : (28530 : Int64) = lN (pack wOr) := by decide
theorem k_Not : (7237492 : Int64) = lN (pack wNot) := by decide
/-- behind closes: no more and, no more or -/
theorem a1_no {I : am_I} {x2 : Value} {p v : Nat} {T : List Nat} (hT : tpM I B t) (hp : p ≤ t) (hs : pmR I p v tx T) (ha : ¬ isW B t (sk B t p) wAnd = true) (ho : ¬ isW B t (sk B t p) wOr = true)
    (h : ∀ I', frF [14] I I' → mcu I' (sk B t p) 0 → am_W am_all (am_run (d + 8)) e_Model_tested Q 12 [.ref 186, .int 0, x2] [] I' L (gg Lx ρ) 0 0) : am_W am_all (am_run (d + 8)) e_Model_tested Q 29 [.ref 186, .int 1, x2] [] I L (gg Lx ρ) 0 0 := by
  have ht := hT.2.1
  have hk := sk_le (B := B) hp
  have hid := sk_id (B := B) hp ht
  refine sy_Model_tested_29 (d := d + 7) _ _ ?_
  refine sp_isWord (d := d + 6) (w := wAnd) hT hp (by decide) (by decide) k_And hs.1 (fun I1 f1 c1 => ?_)
  refine sy_Model_tested_36 (d := d + 7) _ _ _ (fun z => absurd (bI_f ha) z) (fun _ => ?_)
  refine sp_isWord (d := d + 6) (w := wOr) (tpM_fr f1 (by decide) (by decide) hT) hk.2 (by decide) (by decide) k_Or c1 (fun I2 f2 c2 => ?_)
  rw [hid] at c2 ⊢
  exact sy_Model_tested_46 (d := d + 7) _ _ _ (fun _ => h I2 (f1.tr f2) c2) (fun z => absurd (bI_f ho) z)
/-- a word ties on a further fact -/
theorem a1_yes {I : am_I} {x2 : Value} {p v x : Nat} {T st : List Nat} {w : List Nat} (hx : x = 12 ∧ w = wAnd ∨ x = 13 ∧ w = wOr) (hT : tpM I B t) (hp : p ≤ t) (hs : pmR I p v tx T) (hst : skR I st) (hx2 : ∀ x ∈ st, x < 200) (hl : T.length + st.length ≤ p) (hW : isW B t (sk B t p) w = true)
    (h : ∀ I', frZ tx I I' → pmR I' (sk B t p + w.length) v tx (setl (stg x) st T).2 → skR I' (x :: (setl (stg x) st T).1) → Mf d Lx ρ Q L I' .null (.int (nI x))) : A1 d Lx ρ Q L I x2 := by
  have ht := hT.2.1
  have hk := sk_le (B := B) hp
  have hid := sk_id (B := B) hp ht
  have hlet : ∀ c ∈ w, 97 ≤ c ∧ c ≤ 122 := by rcases hx with ⟨_, k⟩ | ⟨_, k⟩ <;> subst k <;> decide
  have hpk : ¬ pk B t p = 93 := by
    rcases hx with ⟨_, k⟩ | ⟨_, k⟩ <;> subst k <;> rw [pk_w hW] <;> decide
  have hand : isW B t (sk B t p) wAnd = true ↔ x = 12 := by
    rcases hx with ⟨k1, k⟩ | ⟨k1, k⟩
    · subst k; exact ⟨fun _ => k1, fun _ => hW⟩
    · subst k k1
      refine ⟨fun q => ?_, fun q => absurd q (by decide)⟩
      have e1 := pk_w hW
      have e2 := pk_w q
      exact absurd (e1.symm.trans e2) (by decide)
  unfold A1
  refine sz_Model_closes_5 ?_
  refine sp_see (d := d + 6) hT hp hs.1 (fun I1 f1 c1 => ?_)
  have hT1 := tpM_fr f1 (by decide) (by decide) hT
  refine sz_Model_closes_9 _ (fun _ => ?_) (fun z => absurd z hpk)
  refine sy_Model_tested_29 (d := d + 7) _ _ ?_
  refine sp_isWord (d := d + 6) (w := wAnd) hT1 hk.2 (by decide) (by decide) k_And c1 (fun I2 f2 c2 => ?_)
  rw [hid] at c2 ⊢
  have f12 := f1.tr f2
  have hT2 := tpM_fr f12 (by decide) (by decide) hT
  -- from the second asking on
  have go : ∀ {J : am_I} {y : Value}, frF [14] I J → mcu J (sk B t p) 0 → am_run (d + 8) m_Model_isWord [.ref 186, .long 6385252] J L (gg Lx ρ) (fun r I' L' G' => am_W am_all (am_run (d + 8)) e_Model_tested Q 66 [.ref 186, .int 1, y] (r.toList ++ ([] : List Value)) I' L' G' 0 0) := by
    intro J y fJ cJ
    refine sp_isWord (d := d + 6) (w := wAnd) (tpM_fr fJ (by decide) (by decide) hT) hk.2 (by decide) (by decide) k_And cJ (fun I3 f3 c3 => ?_)
    rw [hid] at c3 ⊢
    have f13 := fJ.tr f3
    have hT3 := tpM_fr f13 (by decide) (by decide) hT
    have pass : am_run (d + 8) m_Model_passWord [.ref 186] I3 L (gg Lx ρ) (fun r I' L' G' => am_W am_all (am_run (d + 8)) e_Model_tested Q 81 [.ref 186, .int 1, .int (nI x)] (r.toList ++ ([] : List Value)) I' L' G' 0 0) := by
      refine sp_mPass (d := d + 6) hT3 hk.2 hlet hW c3 (fun I4 f4 c4 => ?_)
      have f14 : frF [14] I I4 := f13.tr f4
      have s4 := pmR_F f14 (by decide) c4 hs
      have st4 := skR_F f14 (by decide) hst
      have hq : sk B t p + w.length ≤ t := isW_le hk.2 hW
      refine sy_Model_tested_81 (d := d + 7) _ _ ?_
      rw [mStr_n (show x < 200 by omega)]
      refine sp_settles (d := d + 6) (by rcases hx with ⟨k, _⟩ | ⟨k, _⟩ <;> subst k <;> decide) (by have := stg_le x; omega) (by omega) hx2 s4 st4 (by omega) (fun I5 g5 s5 st5 => ?_)
      have hlen : (setl (stg x) st T).1.length ≤ st.length := by
        have : ∀ (st T : List Nat), (setl (stg x) st T).1.length ≤ st.length := by
          intro st
          induction st with
          | nil => intro T; exact Nat.le_refl _
          | cons y st ih =>
            intro T
            rw [setl]
            split
            · exact Nat.le_refl _
            · exact Nat.le_trans (ih _) (Nat.le_succ _)
        exact this st T
      have hw0 : 0 < w.length := by rcases hx with ⟨_, k⟩ | ⟨_, k⟩ <;> subst k <;> decide
      refine sy_Model_tested_89 (d := d + 7) _ _ ?_ ?_
      · rw [st5.1]; exact vp_in_nI (by omega) (by decide)
      · rw [st5.1, nI_clamp (by omega), nI_1]
        refine sy_Model_tested_12 (d := d + 7) _ _ (fun q => absurd q (by decide)) (fun _ => ?_)
        refine run_in (d := d + 7) rfl rfl ⟨rfl, rfl⟩ (sz_Model_fact_0 ?_)
        have g5' : frZ tx I I5 := (frZ.F f14 (by decide)).tr g5
        exact h _ ((g5'.tr frZ.u5).tr (frZ.uf (by decide))) (pmR_st (by rw [am_u_ne (by decide), am_u_ne (by decide)]) (by rw [am_u_ne (by decide), am_u_ne (by decide)]) (fun k z1 z2 => by rw [am_u_nk z2, am_u_ne (by decide)]) s5) (push2_ok (by omega) st5)
    refine sy_Model_tested_66 (d := d + 7) _ _ _ (fun z => ?_) (fun z => ?_)
    · have hx13 : x = 13 := by
        have : ¬ x = 12 := fun q => bI0 z (hand.mpr q)
        omega
      subst hx13; exact pass
    · have hx12 : x = 12 := hand.mp (bI1 z)
      subst hx12; exact pass
  refine sy_Model_tested_36 (d := d + 7) _ _ _ (fun _ => go f12 c2) (fun z => ?_)
  refine sp_isWord (d := d + 6) (w := wOr) hT2 hk.2 (by decide) (by decide) k_Or c2 (fun I3 f3 c3 => ?_)
  rw [hid] at c3 ⊢
  have hWo : isW B t (sk B t p) wOr = true := by
    rcases hx with ⟨k1, k⟩ | ⟨k1, k⟩
    · exact absurd (hand.mpr k1) (bI0 z)
    · subst k; exact hW
  exact sy_Model_tested_46 (d := d + 7) _ _ _ (fun q => absurd hWo (bI0 q)) (fun _ => go (f12.tr f3) c3)
theorem lp_tst {k : Nat} {f : FT} {bs T : List Nat} (hT0 : tpM I0 B t) (hCF : CF d Lx ρ Q L B t tx I0 k f) (hg : ∀ p v, p ≤ t → gd t true p v (f p v)) (hbs : ∀ j X, 1 ≤ j → setl j bs X = (bs, X)) (hdep : dep bs + k = 10) (hbx : ∀ x ∈ bs, x < 200) : ∀ F a b p v oR I x2, t < p + F → p ≤ t → tpM I B t → pmR I p v tx (T ++ oR) → skR I (pd a b ++ bs) → v ≤ 60 → (T ++ oR).length + (pd a b ++ bs).length ≤ p → frZ tx I0 I →
    ((tstL B t f F b p v (oR ++ da a)).1 = 0 → ∀ a' b' p'' oR' I' x2', p'' ≤ t → frZ tx I0 I' → tpM I' B t → sk B t p'' = (tstL B t f F b p v (oR ++ da a)).2.1 → pmR I' p'' (tstL B t f F b p v (oR ++ da a)).2.2.1 tx (T ++ oR') → skR I' (pd a' b' ++ bs) → (tstL B t f F b p v (oR ++ da a)).2.2.2 = oR' ++ da a' ++ o13 b' → (T ++ oR').length + (pd a' b' ++ bs).length ≤ p'' → ¬ isW B t (sk B t p'') wAnd = true → ¬ isW B t (sk B t p'') wOr = true → A1 d Lx ρ Q L I' x2') →
    (¬ (tstL B t f F b p v (oR ++ da a)).1 = 0 → ∀ I', frZ tx I0 I' → I' 186 15 = nI (tstL B t f F b p v (oR ++ da a)).1 → Q (some (.int 0)) I' L (gg Lx ρ)) → A1 d Lx ρ Q L I x2 := by
  intro F
  induction F with
  | zero => intro a b p v oR I x2 h1 h2; omega
  | succ F ih =>
    intro a b p v oR I x2 hF hp hT hs hst hv hl g0 h1 h0
    have hk := sk_le (B := B) hp
    by_cases y1 : isW B t (sk B t p) wAnd = true
    · have hq : sk B t p + 3 ≤ t := isW_le hk.2 y1
      have hgf := hg (sk B t p + 3) v hq
      have es : tstL B t f (F + 1) b p v (oR ++ da a) = bnd (f (sk B t p + 3) v) (fun p1 v1 o1 => tstL B t f F b p1 v1 (oR ++ da a ++ o1 ++ [12])) := by rw [tstL, if_pos y1]
      rw [es] at h1 h0
      refine a1_yes (x := 12) (Or.inl ⟨rfl, rfl⟩) hT hp hs hst (pd_x hbx) hl y1 (fun I1 g1 s1 st1 => ?_)
      have e2 : setl (stg 12) (pd a b ++ bs) (T ++ oR) = (o13 b ++ bs, T ++ oR ++ da a) := setl_2 hbs
      rw [e2] at s1 st1
      have hlen : (T ++ oR ++ da a).length + (12 :: (o13 b ++ bs)).length ≤ sk B t p + 3 := by
        have e : (pd a b ++ bs).length = (da a).length + ((o13 b ++ bs).length) := by rw [pd, List.append_assoc, List.length_append]
        rw [e] at hl
        rw [List.length_append]; show _ + _ + (_ + 1) ≤ _; omega
      refine hCF (sk B t p + 3) v _ (12 :: (o13 b ++ bs)) I1 _ _ hq (g1.T hT) s1 st1 ?_ (pd_x (a := true) (b := b) hbx) hv hlen (g0.tr g1) (fun z I2 y2' g2 s2 st2 => ?_) (fun z I2 g2 e2 => ?_)
      · have : dep (12 :: (o13 b ++ bs)) = dep bs := dep_pd (a := true) (b := b)
        rw [this]; exact hdep
      · obtain ⟨q1, q2, q3, q4, q5, q6⟩ := hgf.2 z
        have eb : bnd (f (sk B t p + 3) v) (fun p1 v1 o1 => tstL B t f F b p1 v1 (oR ++ da a ++ o1 ++ [12])) = tstL B t f F b (f (sk B t p + 3) v).2.1 (f (sk B t p + 3) v).2.2.1 (oR ++ da a ++ (f (sk B t p + 3) v).2.2.2 ++ [12]) := if_pos z
        rw [eb] at h1 h0
        have e3 : setl 3 (12 :: (o13 b ++ bs)) (T ++ oR ++ da a ++ (f (sk B t p + 3) v).2.2.2) = (12 :: (o13 b ++ bs), T ++ oR ++ da a ++ (f (sk B t p + 3) v).2.2.2) := rfl
        rw [e3] at s2 st2
        have ea : T ++ oR ++ da a ++ (f (sk B t p + 3) v).2.2.2 = T ++ (oR ++ da a ++ (f (sk B t p + 3) v).2.2.2) := by simp only [List.append_assoc]
        rw [ea] at s2
        refine ih true b _ _ (oR ++ da a ++ (f (sk B t p + 3) v).2.2.2) I2 _ (by omega) q2 (g2.T hT0) s2 st2 q5 ?_ g2 h1 h0
        rw [← ea]
        show (T ++ oR ++ da a ++ (f (sk B t p + 3) v).2.2.2).length + (12 :: (o13 b ++ bs)).length ≤ (f (sk B t p + 3) v).2.1
        rw [List.length_append]; omega
      · have eb : bnd (f (sk B t p + 3) v) (fun p1 v1 o1 => tstL B t f F b p1 v1 (oR ++ da a ++ o1 ++ [12])) = bad (f (sk B t p + 3) v).1 := if_neg z
        rw [eb] at h0
        exact h0 z I2 g2 e2
    · by_cases y2 : isW B t (sk B t p) wOr = true
      · have hq : sk B t p + 2 ≤ t := isW_le hk.2 y2
        have hgf := hg (sk B t p + 2) v hq
        have es : tstL B t f (F + 1) b p v (oR ++ da a) = bnd (f (sk B t p + 2) v) (fun p1 v1 o1 => tstL B t f F true p1 v1 (oR ++ da a ++ o13 b ++ o1)) := by rw [tstL, if_neg y1, if_pos y2]
        rw [es] at h1 h0
        refine a1_yes (x := 13) (Or.inr ⟨rfl, rfl⟩) hT hp hs hst (pd_x hbx) hl y2 (fun I1 g1 s1 st1 => ?_)
        have e2 : setl (stg 13) (pd a b ++ bs) (T ++ oR) = (bs, T ++ oR ++ da a ++ o13 b) := setl_1 hbs
        rw [e2] at s1 st1
        have hlen : (T ++ oR ++ da a ++ o13 b).length + (13 :: bs).length ≤ sk B t p + 2 := by
          have e : (pd a b ++ bs).length = (da a).length + (o13 b).length + bs.length := by rw [pd, List.length_append, List.length_append]
          rw [e] at hl
          rw [List.length_append, List.length_append]; show _ + _ + _ + (_ + 1) ≤ _; omega
        refine hCF (sk B t p + 2) v _ (13 :: bs) I1 _ _ hq (g1.T hT) s1 st1 ?_ (pd_x (a := false) (b := true) hbx) hv hlen (g0.tr g1) (fun z I2 y2' g2 s2 st2 => ?_) (fun z I2 g2 e2 => ?_)
        · have : dep (13 :: bs) = dep bs := dep_pd (a := false) (b := true)
          rw [this]; exact hdep
        · obtain ⟨q1, q2, q3, q4, q5, q6⟩ := hgf.2 z
          have ea : T ++ oR ++ da a ++ o13 b ++ (f (sk B t p + 2) v).2.2.2 = T ++ (oR ++ da a ++ o13 b ++ (f (sk B t p + 2) v).2.2.2) := by simp only [List.append_assoc]
          have eb : bnd (f (sk B t p + 2) v) (fun p1 v1 o1 => tstL B t f F true p1 v1 (oR ++ da a ++ o13 b ++ o1)) = tstL B t f F true (f (sk B t p + 2) v).2.1 (f (sk B t p + 2) v).2.2.1 (oR ++ da a ++ o13 b ++ (f (sk B t p + 2) v).2.2.2 ++ da false) := by
            have e0 : da false = [] := rfl
            rw [e0, List.append_nil]; exact if_pos z
          rw [eb] at h1 h0
          have e3 : setl 3 (13 :: bs) (T ++ oR ++ da a ++ o13 b ++ (f (sk B t p + 2) v).2.2.2) = (13 :: bs, T ++ oR ++ da a ++ o13 b ++ (f (sk B t p + 2) v).2.2.2) := rfl
          rw [e3] at s2 st2
          rw [ea] at s2
          refine ih false true _ _ (oR ++ da a ++ o13 b ++ (f (sk B t p + 2) v).2.2.2) I2 _ (by omega) q2 (g2.T hT0) s2 st2 q5 ?_ g2 h1 h0
          rw [← ea]
          show (T ++ oR ++ da a ++ o13 b ++ (f (sk B t p + 2) v).2.2.2).length + (13 :: bs).length ≤ (f (sk B t p + 2) v).2.1
          rw [List.length_append]; omega
        · have eb : bnd (f (sk B t p + 2) v) (fun p1 v1 o1 => tstL B t f F true p1 v1 (oR ++ da a ++ o13 b ++ o1)) = bad (f (sk B t p + 2) v).1 := if_neg z
          rw [eb] at h0
          exact h0 z I2 g2 e2
      · have es : tstL B t f (F + 1) b p v (oR ++ da a) = (0, sk B t p, v, oR ++ da a ++ o13 b) := by rw [tstL, if_neg y1, if_neg y2]
        rw [es] at h1
        exact h1 rfl a b p oR I x2 hp g0 hT rfl hs hst rfl hl y1 y2
/-- within brackets, at the end of the test -/
theorem a1_br {a b : Bool} {p v : Nat} {T st : List Nat} {I : am_I} {x2 : Value} (hp : p ≤ t) (hT : tpM I B t) (hs : pmR I p v tx T) (hst : skR I (pd a b ++ 91 :: st)) (hx : ∀ x ∈ st, x < 200) (hl : T.length + (pd a b ++ 91 :: st).length ≤ p) (ha : ¬ isW B t (sk B t p) wAnd = true) (ho : ¬ isW B t (sk B t p) wOr = true) (g0 : frZ tx I0 I)
    (h1 : pk B t p = 93 → ∀ I', frZ tx I0 I' → pmR I' (sk B t p + 1) v tx (setl 3 st (T ++ da a ++ o13 b)).2 → skR I' (setl 3 st (T ++ da a ++ o13 b)).1 → A1 d Lx ρ Q L I' x2)
    (h0 : ¬ pk B t p = 93 → ∀ I', frZ tx I0 I' → I' 186 15 = nI (1 + 8 * sk B t p) → Q (some (.int 0)) I' L (gg Lx ρ)) : A1 d Lx ρ Q L I x2 := by
  have ht := hT.2.1
  have hk := sk_le (B := B) hp
  have hid := sk_id (B := B) hp ht
  have hbs : ∀ j X, 1 ≤ j → setl j (91 :: st) X = (91 :: st, X) := fun j X hj => by rw [setl, if_pos (show stg 91 < j from hj)]
  have hxx : ∀ x ∈ 91 :: st, x < 200 := fun x hx2 => by
    rcases List.mem_cons.mp hx2 with k | k
    · subst k; decide
    · exact hx x k
  have hin : 91 ∈ pd a b ++ 91 :: st := pd_i.mpr (by simp)
  have hl4 : (pd a b ++ 91 :: st).length ≤ 400 := by omega
  unfold A1
  refine sz_Model_closes_5 ?_
  refine sp_see (d := d + 6) hT hp hs.1 (fun I1 f1 c1 => ?_)
  have hT1 := tpM_fr f1 (by decide) (by decide) hT
  have s1 := pmR_F f1 (by decide) c1 hs
  have st1 := skR_F f1 (by decide) hst
  have g1 := g0.tr (frZ.F f1 (by decide))
  refine sz_Model_closes_9 _ (fun z => ?_) (fun z => ?_)
  · refine a1_no hT1 hk.2 s1 (by rw [hid]; exact ha) (by rw [hid]; exact ho) (fun I2 f2 c2 => ?_)
    rw [hid] at c2
    have st2 := skR_F f2 (by decide) st1
    have g2 := g1.tr (frZ.F f2 (by decide))
    refine sy_Model_tested_12 (d := d + 7) _ _ (fun _ => ?_) (fun q => absurd rfl q)
    refine sp_isInside (d := d + 7) st2 hl4 (pd_x hxx) ?_
    rw [bI_t hin]
    refine sy_Model_tested_116 (d := d + 7) _ _ _ (fun q => absurd q (by decide)) (fun _ => ?_)
    refine sp_see (d := d + 7) (tpM_fr f2 (by decide) (by decide) hT1) hk.2 c2 (fun I3 f3 c3 => ?_)
    rw [hid] at c3
    refine sy_Model_tested_123 (d := d + 7) _ _ _ ?_
    rw [c3.1]
    have g := mFail_n (q := sk B t p) (w := 0) (by decide) c3
    exact h0 z _ ((g2.tr (frZ.F f3 (by decide))).tr (frZ.F g.1 (by decide))) g.2.2
  · have hlt := pkc_lt z (by decide)
    refine sp_isInside (d := d + 6) st1 hl4 (pd_x hxx) ?_
    rw [bI_t hin]
    refine sz_Model_closes_18 _ (fun q => absurd q (by decide)) (fun _ => ?_)
    refine sp_settles (d := d + 5) (k := 1) (by decide) (by decide) (by omega) (pd_x hxx) s1 st1 (by omega) (fun I2 g2 s2 st2 => ?_)
    rw [setl_1 hbs] at s2 st2
    obtain ⟨r1, r2⟩ := segAt_r st2.2.1
    have e22 : I2 186 22 - 1 = nI st.length := by rw [st2.1]; exact nI_pred st.length
    have e19 : I2 186 19 - 1 = nI (dep st) := by
      rw [st2.2.2]
      have : dep (91 :: st) = dep st + 1 := by show 1 + dep st = dep st + 1; omega
      rw [this]; exact nI_pred _
    have e14 : I2 186 14 + 1 = nI (sk B t p + 1) := by rw [s2.1.1, nI_1]
    refine sz_Model_closes_26 ?_
    rw [e22, e19, e14]
    have s3 : pmR (am_u (am_u (am_u I2 186 22 (nI st.length)) 186 19 (nI (dep st))) 186 14 (nI (sk B t p + 1))) (sk B t p + 1) v tx (T ++ da a ++ o13 b) := mvM (p := sk B t p) (pmR_st (by rw [am_u_ne (by decide), am_u_ne (by decide)]) (by rw [am_u_ne (by decide), am_u_ne (by decide)]) (fun k z1 z2 => by rw [am_u_nk z1, am_u_nk z2]) s2)
    have st3 : skR (am_u (am_u (am_u I2 186 22 (nI st.length)) 186 19 (nI (dep st))) 186 14 (nI (sk B t p + 1))) st := ⟨by rw [am_u_nk (by decide), am_u_nk (by decide), am_u_at], by rw [am_u_ne (by decide), am_u_ne (by decide), am_u_ne (by decide)]; exact r1, by rw [am_u_nk (by decide), am_u_at]⟩
    have g3 : frZ tx I0 (am_u (am_u (am_u I2 186 22 (nI st.length)) 186 19 (nI (dep st))) 186 14 (nI (sk B t p + 1))) := (((g1.tr g2).tr (frZ.uf (by decide))).tr (frZ.uf (by decide))).tr (frZ.uf (by decide))
    have hl3 : (T ++ da a ++ o13 b).length + st.length ≤ sk B t p + 1 := by
      have e : (pd a b ++ 91 :: st).length = (da a).length + (o13 b).length + (st.length + 1) := by rw [pd, List.length_append, List.length_append]; rfl
      rw [e] at hl
      rw [List.length_append, List.length_append]; omega
    refine sp_settles (d := d + 5) (k := 3) (by decide) (by decide) (by omega) hx s3 st3 hl3 (fun I4 g4 s4 st4 => ?_)
    exact sz_Model_closes_61 (h1 z I4 (g3.tr g4) s4 st4)
end RMW
