/-! ===== rule: the reference's terms and sums ===== -/
theorem pk_sk {B : Nat → Nat} {t p : Nat} (hp : p ≤ t) (ht : t ≤ 400) : pk B t (sk B t p) = pk B t p := by unfold pk; rw [sk_id hp ht]
theorem sumL_sk {B : Nat → Nat} {t p v w F : Nat} {o : List Nat} (hp : p ≤ t) (ht : t ≤ 400) (hF : 0 < F) : sumL B t F (sk B t p) v w o = sumL B t F p v w o := by
  obtain ⟨F', rfl⟩ : ∃ F', F = F' + 1 := ⟨F - 1, by omega⟩
  rw [sumL, sumL, pk_sk hp ht, sk_id hp ht]
theorem sumL_w {B : Nat → Nat} {t p v w F : Nat} {o : List Nat} (hF : 0 < F) (hw : ¬ w = 0) (h : ¬ (pk B t p = 42 ∨ pk B t p = 47)) : sumL B t F p v w o = sumL B t F p v 0 (o ++ [w]) := by
  obtain ⟨F', rfl⟩ : ∃ F', F = F' + 1 := ⟨F - 1, by omega⟩
  have e1 : wl w = [w] := if_neg hw
  have e0 : wl 0 = [] := if_pos rfl
  rw [sumL, sumL, if_neg h, if_neg h, e1, e0, List.append_nil]
section RMS
variable {d Lx : Nat} {ρ : List (Nat × Nat)} {Q : am_Q}
theorem sB_at {I : am_I} {B : Nat → Nat} {t q : Nat} (hT : tpM I B t) (hq : q < t) (c : Nat) (hc : c < 128) : I 187 (nI q).toNatClampNeg = nI c ↔ B q = c := by
  have ht := hT.2.1
  rw [nI_clamp (by omega), (hT.2.2 q hq).1]
  exact sB_eq (hT.2.2 q hq).2 hc
theorem pk_c {B : Nat → Nat} {t p c : Nat} (hB : ∀ i, i < t → B i < 256) (hc : c < 256) (h : pk B t p = nI c) : sk B t p < t ∧ B (sk B t p) = c := by
  have h1 : sk B t p < t := pk_m (fun z => absurd (h.symm.trans z) (nI_nm1 (by omega)))
  refine ⟨h1, ?_⟩
  unfold pk at h
  rw [if_pos h1] at h
  exact (nI_eq (by have := hB _ h1; omega) (by omega)).mp h
theorem mvM {I : am_I} {p q v tx : Nat} {T : List Nat} (h : pmR I p v tx T) : pmR (am_u I 186 14 (nI q)) q v tx T := pmR_F (F := [14]) (frm.rf.uf (by simp)) (by decide) ⟨am_u_at, by rw [am_u_nk (by decide)]; exact h.1.2⟩ h
theorem frV.m {tx : Nat} {I : am_I} {q : Int32} : frV tx I (am_u I 186 14 q) := frV.F (F := [14]) (frm.rf.uf (by simp)) (by decide)
theorem lp_term {L : am_L} {B : Nat → Nat} {t tx e1 : Nat} {T : List Nat} {I0 : am_I} : ∀ F p v o I x1, t < p + F → p ≤ t → tpM I B t → pmR I p v tx (T ++ o) → v ≤ 60 → T.length + o.length + e1 ≤ p → frV tx I0 I →
    (∀ F' p' v' o' I', F' ≤ F → frV tx I0 I' → (∀ w, sumL B t F p v w o = sumL B t F' p' v' w o') → t < p' + F' → p' ≤ t → pmR I' p' v' tx (T ++ o') → v' ≤ 60 → T.length + o'.length + e1 ≤ p' → ¬ (pk B t p' = 42 ∨ pk B t p' = 47) → Q (some (.int 1)) I' L (gg Lx ρ)) →
    (∀ e I', ¬ e = 0 → frV tx I0 I' → I' 186 15 = nI e → (∀ w, sumL B t F p v w o = bad e) → Q (some (.int 0)) I' L (gg Lx ρ)) →
    am_W am_all (am_run (d + 4)) e_Model_term Q 9 [.ref 186, x1] [] I L (gg Lx ρ) 0 0 := by
  intro F
  induction F with
  | zero => intro p v o I x1 h1 h2; omega
  | succ F ih =>
    intro p v o I x1 hF hp hT hs hv hl g0 h1 h0
    have hB := fun i hi => (hT.2.2 i hi).2
    have ht := hT.2.1
    have hk := sk_le (B := B) hp
    have hid := sk_id (B := B) hp ht
    refine sy_Model_term_9 (d := d + 3) _ ?_
    refine sp_see (d := d + 3) hT hp hs.1 (fun I1 f1 c1 => ?_)
    have hT1 := tpM_fr f1 (by decide) (by decide) hT
    have s1 := pmR_F f1 (by decide) c1 hs
    have g1 := g0.tr (frV.F f1 (by decide))
    have step : ∀ {J : am_I} (c op : Nat), (c = 42 ∧ op = 4 ∨ c = 47 ∧ op = 5) → pk B t p = nI c → frV tx I0 J → tpM J B t → pmR J (sk B t p) v tx (T ++ o) → am_run (d + 4) m_Model_value [.ref 186] (am_u J 186 14 (nI (sk B t p + 1))) L (gg Lx ρ) (fun r I' L' G' => am_W am_all (am_run (d + 4)) e_Model_term Q 61 [.ref 186, .int (nI op)] (r.toList ++ ([] : List Value)) I' L' G' 0 0) := by
      intro J c op hco hpk gJ hTJ sJ
      obtain ⟨hlt, hb⟩ := pk_c hB (by omega) hpk
      have y2 : pk B t p = 42 ∨ pk B t p = 47 := by
        rcases hco with ⟨k, _⟩ | ⟨k, _⟩
        · subst k; exact Or.inl hpk
        · subst k; exact Or.inr hpk
      have y1 : ¬ (pk B t p = 43 ∨ pk B t p = 45) := by
        rcases hco with ⟨k, _⟩ | ⟨k, _⟩ <;> subst k <;> rw [hpk] <;> decide
      have eop : (if pk B t p = 42 then 4 else 5) = op := by
        rcases hco with ⟨k, k2⟩ | ⟨k, k2⟩ <;> subst k <;> subst k2 <;> rw [hpk] <;> rfl
      have hvg := valP_g (v := v) hB ht (show sk B t p + 1 ≤ t by omega)
      have es : ∀ w, sumL B t (F + 1) p v w o = if (valP B t (sk B t p + 1) v).1 = 0 then sumL B t F (valP B t (sk B t p + 1) v).2.1 (valP B t (sk B t p + 1) v).2.2.1 w (o ++ [(valP B t (sk B t p + 1) v).2.2.2, op]) else bad (valP B t (sk B t p + 1) v).1 := by
        intro w; rw [sumL, if_neg y1, if_pos y2, eop]
      refine sp_value (d := d) (frV.m.T (tx := tx) hTJ) (by omega) (mvM sJ) hv (by rw [List.length_append]; omega) (fun z I2 g2 s2 => ?_) (fun z I2 g2 e2 => ?_)
      · obtain ⟨q1, q2, q3, q4, q5⟩ := hvg.2 z
        have hl2 : (T ++ o ++ [(valP B t (sk B t p + 1) v).2.2.2]).length < 400 := by simp only [List.length_append, List.length_cons, List.length_nil]; omega
        have o2 := put_o s2 hl2
        have pw := put_ok (x := nI op) (y := 0) (tok := op) s2 hl2 (by show nI op + 0 = nI op; exact nI_add0 _)
        refine sy_Model_term_61 (d := d + 3) _ _ (fun _ => o2.1) (fun _ => o2.2) (fun _ => ?_) (fun k => absurd k (by decide))
        have e3 : T ++ o ++ [(valP B t (sk B t p + 1) v).2.2.2] ++ [op] = T ++ (o ++ [(valP B t (sk B t p + 1) v).2.2.2, op]) := by simp
        have sp := pw.1
        rw [e3] at sp
        refine ih _ _ _ _ _ (by omega) q2 ((frV.m.tr (g2.tr pw.2)).T hTJ) sp (by omega) (by simp only [List.length_append, List.length_cons, List.length_nil]; omega) (gJ.tr (frV.m.tr (g2.tr pw.2))) (fun F' p' v' o' I' a1 a2 a3 a4 a5 a6 a7 a8 a9 => ?_) (fun e I' a1 a2 a3 a4 => ?_)
        · exact h1 F' p' v' o' I' (by omega) a2 (fun w => by rw [es w, if_pos z]; exact a3 w) a4 a5 a6 a7 a8 a9
        · exact h0 e I' a1 a2 a3 (fun w => by rw [es w, if_pos z]; exact a4 w)
      · refine sy_Model_term_61 (d := d + 3) _ _ (fun k => absurd rfl k) (fun k => absurd rfl k) (fun k => absurd rfl k) (fun _ => ?_)
        exact h0 _ I2 z (gJ.tr (frV.m.tr g2)) e2 (fun w => by rw [es w, if_neg z])
    refine sy_Model_term_13 (d := d + 3) _ _ (fun z => ?_) (fun z k => ?_) (fun z k => ?_) (fun z => ?_)
    · rw [c1.1]; have := pkc_lt z (by decide); exact vp_in_nI (by omega) (by decide)
    · have hb := pk_c (c := 42) hB (by decide) z
      rw [c1.1] at k
      exact absurd ((sB_at hT1 hb.1 42 (by decide)).mpr hb.2) k
    · rw [c1.1, nI_1]
      exact step 42 4 (Or.inl ⟨rfl, rfl⟩) z g1 hT1 s1
    · refine sp_see (d := d + 3) hT1 hk.2 c1 (fun I2 f2 c2 => ?_)
      rw [hid] at c2
      rw [pk_sk hp ht]
      have hT2 := tpM_fr f2 (by decide) (by decide) hT1
      have s2 := pmR_F f2 (by decide) c2 s1
      have g2 := g1.tr (frV.F f2 (by decide))
      refine sy_Model_term_22 (d := d + 3) _ _ (fun y => ?_) (fun y => ?_) (fun y k => ?_) (fun y k => ?_)
      · refine h1 (F + 1) (sk B t p) v o I2 (Nat.le_refl _) g2 (fun w => (sumL_sk hp ht (by omega)).symm) (by omega) hk.2 s2 hv (by omega) (fun q => ?_)
        rw [pk_sk hp ht] at q
        exact q.elim z y
      · rw [c2.1]; have := pkc_lt y (by decide); exact vp_in_nI (by omega) (by decide)
      · rw [c2.1, nI_1]
        exact step 47 5 (Or.inr ⟨rfl, rfl⟩) y g2 hT2 s2
      · have hb := pk_c (c := 47) hB (by decide) y
        rw [c2.1] at k
        have := (sB_at hT2 hb.1 42 (by decide)).mp k
        omega
theorem sp_term {I : am_I} {L : am_L} {B : Nat → Nat} {t p v tx e1 F : Nat} {T o : List Nat} (hF : t < p + F) (hT : tpM I B t) (hp : p ≤ t) (hs : pmR I p v tx (T ++ o)) (hv : v ≤ 60) (hl : T.length + o.length + e1 ≤ p)
    (h1 : (valP B t p v).1 = 0 → ∀ F' p' v' o' I', F' ≤ F → frV tx I I' → (∀ w, sumL B t F (valP B t p v).2.1 (valP B t p v).2.2.1 w (o ++ [(valP B t p v).2.2.2]) = sumL B t F' p' v' w o') → t < p' + F' → p' ≤ t → pmR I' p' v' tx (T ++ o') → v' ≤ 60 → T.length + o'.length + e1 ≤ p' → ¬ (pk B t p' = 42 ∨ pk B t p' = 47) → Q (some (.int 1)) I' L (gg Lx ρ))
    (h0 : ∀ e I', ¬ e = 0 → frV tx I I' → I' 186 15 = nI e → (if (valP B t p v).1 = 0 then ∀ w, sumL B t F (valP B t p v).2.1 (valP B t p v).2.2.1 w (o ++ [(valP B t p v).2.2.2]) = bad e else (valP B t p v).1 = e) → Q (some (.int 0)) I' L (gg Lx ρ)) : am_run (d + 5) m_Model_term [.ref 186] I L (gg Lx ρ) Q := by
  have hB := fun i hi => (hT.2.2 i hi).2
  have ht := hT.2.1
  have hvg := valP_g (v := v) hB ht hp
  refine run_in rfl rfl ⟨rfl, rfl⟩ (sy_Model_term_0 (d := d + 3) ?_)
  refine sp_value (d := d) hT hp hs hv (by rw [List.length_append]; omega) (fun z I2 g2 s2 => ?_) (fun z I2 g2 e2 => ?_)
  · obtain ⟨q1, q2, q3, q4, q5⟩ := hvg.2 z
    refine sy_Model_term_4 (d := d + 3) _ _ (fun _ => ?_) (fun k => absurd k (by decide))
    rw [List.append_assoc] at s2
    refine lp_term F _ _ _ I2 _ (by omega) q2 (g2.T hT) s2 (by omega) (by simp only [List.length_append, List.length_cons, List.length_nil]; omega) g2 (fun F' p' v' o' I' => h1 z F' p' v' o' I') (fun e I' a1 a2 a3 a4 => ?_)
    exact h0 e I' a1 a2 a3 (by rw [if_pos z]; exact a4)
  · refine sy_Model_term_4 (d := d + 3) _ _ (fun k => absurd rfl k) (fun _ => ?_)
    exact h0 _ I2 z g2 e2 (by rw [if_neg z])
theorem lp_msum {L : am_L} {B : Nat → Nat} {t tx : Nat} {T : List Nat} {I0 : am_I} : ∀ N F p v o I x1, F ≤ N → t < p + F → p ≤ t → tpM I B t → pmR I p v tx (T ++ o) → v ≤ 60 → T.length + o.length ≤ p → ¬ (pk B t p = 42 ∨ pk B t p = 47) → frV tx I0 I →
    ((sumL B t F p v 0 o).1 = 0 → ∀ I', frV tx I0 I' → pmR I' (sumL B t F p v 0 o).2.1 (sumL B t F p v 0 o).2.2.1 tx (T ++ (sumL B t F p v 0 o).2.2.2) → Q (some (.int 1)) I' L (gg Lx ρ)) →
    (¬ (sumL B t F p v 0 o).1 = 0 → ∀ I', frV tx I0 I' → I' 186 15 = nI (sumL B t F p v 0 o).1 → Q (some (.int 0)) I' L (gg Lx ρ)) →
    am_W am_all (am_run (d + 5)) e_Model_sum Q 9 [.ref 186, x1] [] I L (gg Lx ρ) 0 0 := by
  intro N
  induction N with
  | zero => intro F p v o I x1 h1 h2 h3; omega
  | succ N ih =>
    intro F p v o I x1 hFN hF hp hT hs hv hl hn g0 h1 h0
    obtain ⟨F, rfl⟩ : ∃ F', F = F' + 1 := ⟨F - 1, by omega⟩
    have hB := fun i hi => (hT.2.2 i hi).2
    have ht := hT.2.1
    have hk := sk_le (B := B) hp
    have hid := sk_id (B := B) hp ht
    refine sy_Model_sum_9 (d := d + 4) _ ?_
    refine sp_see (d := d + 4) hT hp hs.1 (fun I1 f1 c1 => ?_)
    have hT1 := tpM_fr f1 (by decide) (by decide) hT
    have s1 := pmR_F f1 (by decide) c1 hs
    have g1 := g0.tr (frV.F f1 (by decide))
    have step : ∀ {J : am_I} (c op : Nat), (c = 43 ∧ op = 2 ∨ c = 45 ∧ op = 3) → pk B t p = nI c → frV tx I0 J → tpM J B t → pmR J (sk B t p) v tx (T ++ o) → am_run (d + 5) m_Model_term [.ref 186] (am_u J 186 14 (nI (sk B t p + 1))) L (gg Lx ρ) (fun r I' L' G' => am_W am_all (am_run (d + 5)) e_Model_sum Q 61 [.ref 186, .int (nI op)] (r.toList ++ ([] : List Value)) I' L' G' 0 0) := by
      intro J c op hco hpk gJ hTJ sJ
      obtain ⟨hlt, hb⟩ := pk_c hB (by omega) hpk
      have y1 : pk B t p = 43 ∨ pk B t p = 45 := by
        rcases hco with ⟨k, _⟩ | ⟨k, _⟩
        · subst k; exact Or.inl hpk
        · subst k; exact Or.inr hpk
      have eop : (if pk B t p = 43 then 2 else 3) = op := by
        rcases hco with ⟨k, k2⟩ | ⟨k, k2⟩ <;> subst k <;> subst k2 <;> rw [hpk] <;> rfl
      have op0 : ¬ op = 0 := by omega
      have e0 : wl 0 = [] := if_pos rfl
      have es : sumL B t (F + 1) p v 0 o = if (valP B t (sk B t p + 1) v).1 = 0 then sumL B t F (valP B t (sk B t p + 1) v).2.1 (valP B t (sk B t p + 1) v).2.2.1 op (o ++ [(valP B t (sk B t p + 1) v).2.2.2]) else bad (valP B t (sk B t p + 1) v).1 := by
        rw [sumL, if_pos y1, eop, e0, List.append_nil]
      rw [es] at h1 h0
      refine sp_term (d := d) (e1 := 1) (F := F) (by omega) (frV.m.T (tx := tx) hTJ) (by omega) (mvM sJ) hv (by omega) (fun z F' p' v' o' I' a1 a2 a3 a4 a5 a6 a7 a8 a9 => ?_) (fun e I' a1 a2 a3 a4 => ?_)
      · rw [if_pos z, a3 op, sumL_w (by omega) op0 a9] at h1 h0
        have hl2 : (T ++ o').length < 400 := by rw [List.length_append]; omega
        have o2 := put_o a6 hl2
        have pw := put_ok (x := nI op) (y := 0) (tok := op) a6 hl2 (by show nI op + 0 = nI op; exact nI_add0 _)
        refine sy_Model_sum_61 (d := d + 4) _ _ (fun _ => o2.1) (fun _ => o2.2) (fun _ => ?_) (fun k => absurd k (by decide))
        have sp := pw.1
        rw [List.append_assoc] at sp
        exact ih F' p' v' (o' ++ [op]) _ _ (by omega) a4 a5 ((frV.m.tr (a2.tr pw.2)).T hTJ) sp a7 (by rw [List.length_append]; show _ + (_ + 1) ≤ _; omega) a9 (gJ.tr (frV.m.tr (a2.tr pw.2))) h1 h0
      · refine sy_Model_sum_61 (d := d + 4) _ _ (fun k => absurd rfl k) (fun k => absurd rfl k) (fun k => absurd rfl k) (fun _ => ?_)
        by_cases z : (valP B t (sk B t p + 1) v).1 = 0
        · rw [if_pos z] at a4 h0
          rw [a4 op] at h0
          exact h0 a1 I' (gJ.tr (frV.m.tr a2)) a3
        · rw [if_neg z] at a4 h0
          rw [a4] at h0
          exact h0 a1 I' (gJ.tr (frV.m.tr a2)) a3
    refine sy_Model_sum_13 (d := d + 4) _ _ (fun z => ?_) (fun z k => ?_) (fun z k => ?_) (fun z => ?_)
    · rw [c1.1]; have := pkc_lt z (by decide); exact vp_in_nI (by omega) (by decide)
    · have hb := pk_c (c := 43) hB (by decide) z
      rw [c1.1] at k
      exact absurd ((sB_at hT1 hb.1 43 (by decide)).mpr hb.2) k
    · rw [c1.1, nI_1]
      exact step 43 2 (Or.inl ⟨rfl, rfl⟩) z g1 hT1 s1
    · refine sp_see (d := d + 4) hT1 hk.2 c1 (fun I2 f2 c2 => ?_)
      rw [hid] at c2
      rw [pk_sk hp ht]
      have hT2 := tpM_fr f2 (by decide) (by decide) hT1
      have s2 := pmR_F f2 (by decide) c2 s1
      have g2 := g1.tr (frV.F f2 (by decide))
      refine sy_Model_sum_22 (d := d + 4) _ _ (fun y => ?_) (fun y => ?_) (fun y k => ?_) (fun y k => ?_)
      · have e0 : wl 0 = [] := if_pos rfl
        have es : sumL B t (F + 1) p v 0 o = (0, sk B t p, v, o) := by rw [sumL, if_neg (fun q => q.elim z y), if_neg hn, e0, List.append_nil]
        rw [es] at h1
        exact h1 rfl I2 g2 s2
      · rw [c2.1]; have := pkc_lt y (by decide); exact vp_in_nI (by omega) (by decide)
      · rw [c2.1, nI_1]
        exact step 45 3 (Or.inr ⟨rfl, rfl⟩) y g2 hT2 s2
      · have hb := pk_c (c := 45) hB (by decide) y
        rw [c2.1] at k
        have := (sB_at hT2 hb.1 43 (by decide)).mp k
        omega
theorem sp_msum {I : am_I} {L : am_L} {B : Nat → Nat} {t p v tx : Nat} {T : List Nat} (hT : tpM I B t) (hp : p ≤ t) (hs : pmR I p v tx T) (hv : v ≤ 60) (hl : T.length ≤ p)
    (h1 : (sumP B t p v).1 = 0 → ∀ I', frV tx I I' → pmR I' (sumP B t p v).2.1 (sumP B t p v).2.2.1 tx (T ++ (sumP B t p v).2.2.2) → Q (some (.int 1)) I' L (gg Lx ρ))
    (h0 : ¬ (sumP B t p v).1 = 0 → ∀ I', frV tx I I' → I' 186 15 = nI (sumP B t p v).1 → Q (some (.int 0)) I' L (gg Lx ρ)) : am_run (d + 6) m_Model_sum [.ref 186] I L (gg Lx ρ) Q := by
  have ht := hT.2.1
  refine run_in rfl rfl ⟨rfl, rfl⟩ (sy_Model_sum_0 (d := d + 4) ?_)
  refine sp_term (d := d) (e1 := 0) (F := 401) (o := []) (by omega) hT hp (by rw [List.append_nil]; exact hs) hv (by show _ + 0 + 0 ≤ _; omega) (fun z F' p' v' o' I' a1 a2 a3 a4 a5 a6 a7 a8 a9 => ?_) (fun e I' a1 a2 a3 a4 => ?_)
  · have es : sumP B t p v = sumL B t F' p' v' 0 o' := by unfold sumP; rw [if_pos z]; exact a3 0
    rw [es] at h1 h0
    refine sy_Model_sum_4 (d := d + 4) _ _ (fun _ => ?_) (fun k => absurd k (by decide))
    exact lp_msum F' F' p' v' o' I' _ (Nat.le_refl _) a4 a5 (a2.T hT) a6 a7 (by omega) a9 a2 h1 h0
  · refine sy_Model_sum_4 (d := d + 4) _ _ (fun k => absurd rfl k) (fun _ => ?_)
    by_cases z : (valP B t p v).1 = 0
    · rw [if_pos z] at a4
      have es : sumP B t p v = bad e := by unfold sumP; rw [if_pos z]; exact a4 0
      rw [es] at h0
      exact h0 a1 I' a2 a3
    · rw [if_neg z] at a4
      have es : sumP B t p v = bad e := by unfold sumP; rw [if_neg z, a4]
      rw [es] at h0
      exact h0 a1 I' a2 a3
end RMS
