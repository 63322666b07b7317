/-! ===== rule: the reference, the whole ===== -/
section RMQ
variable {d Lx : Nat} {ρ : List (Nat × Nat)} {Q : am_Q} {L : am_L} {B : Nat → Nat} {t tx : Nat}
theorem fl_sl {R : List (Nat × List Nat)} {c : Nat × List Nat} : (fl (R ++ [c])).length = (fl R).length + c.2.length := by rw [fl_sn, List.length_append]
theorem lp_rall {I0 : am_I} : ∀ F c p v R I, c + F = 13 → c ≤ 12 → R.length = c → p ≤ t → v ≤ 60 → (fl R).length ≤ p → tpM I B t → frX tx I0 I →
    (∀ I', frX tx I0 I' → I' 186 15 = nI (rlL B t F c p v R).1 → ((rlL B t F c p v R).1 = 0 → ∃ p' v', kpM I' p' v' tx (rlL B t F c p v R).2 ∧ (fl (rlL B t F c p v R).2).length ≤ 400) → Q (some (.int (bI ((rlL B t F c p v R).1 = 0)))) (am_u I' 186 1 0) L (gg Lx ρ)) →
    I 186 15 = nI (rcl B t c p v).1 → ((rcl B t c p v).1 = 0 → kpM I (rcl B t c p v).2.1 (rcl B t c p v).2.2.1 tx (R ++ [((rcl B t c p v).2.2.2.1, (rcl B t c p v).2.2.2.2)]) ∧ I 186 20 = nI (c + 1)) →
    am_W am_all (am_run (d + 11)) e_Model_readsAll Q 35 [.ref 186, .int (bI ((rcl B t c p v).1 = 0))] [] I L (gg Lx ρ) 0 0 := by
  intro F
  induction F with
  | zero => intro c p v R I h1 h2; omega
  | succ F ih =>
    intro c p v R I h1 h2 hR hp hv hl hT g0 h he ho
    have hB := fun i hi => (hT.2.2 i hi).2
    have ht := hT.2.1
    have hle := rcl_g (c := c) (v := v) hB ht hp
    by_cases z : (rcl B t c p v).1 = 0
    · obtain ⟨o2, o3⟩ := ho z
      obtain ⟨q1, q2, q3, q4, q5, q6, q7⟩ := hle.2 z
      have hfl : (fl (R ++ [((rcl B t c p v).2.2.2.1, (rcl B t c p v).2.2.2.2)])).length ≤ (rcl B t c p v).2.1 := by rw [fl_sl]; show _ + (rcl B t c p v).2.2.2.2.length ≤ _; omega
      refine sy_Model_readsAll_35 (d := d + 10) _ (fun k => absurd z (bI0 k)) (fun k => absurd z (bI0 k)) (fun _ => ?_)
      refine sp_see (d := d + 10) hT q3 o2.1.1 (fun I1 f1 c1 => ?_)
      have hT1 := tpM_fr f1 (by decide) (by decide) hT
      have g1 := g0.tr (frX.F f1 (by decide))
      have k1 := kpM_F f1 (by decide) c1 o2
      have hk := (sk_le (B := B) q3).2
      have hk1 := (sk_le (B := B) q3).1
      have hid := sk_id (B := B) q3 ht
      refine sy_Model_readsAll_43 (d := d + 10) _ _ (fun _ k => absurd z (bI0 k)) (fun _ k => absurd z (bI0 k)) (fun y2 _ => ?_) (fun y2 => ?_)
      · refine sp_see (d := d + 10) hT1 hk c1 (fun I2 f2 c2 => ?_)
        rw [hid] at c2
        rw [pk_sk q3 ht]
        have g2 := g1.tr (frX.F f2 (by decide))
        have k2 := kpM_F f2 (by decide) c2 k1
        by_cases y : pk B t (rcl B t c p v).2.1 = -1
        · have e : rlL B t (F + 1) c p v R = (0, R ++ [((rcl B t c p v).2.2.2.1, (rcl B t c p v).2.2.2.2)]) := by rw [rlL, if_neg (fun q => q z), if_pos y]
          rw [e, bI_t rfl] at h
          refine sy_Model_readsAll_74 (d := d + 10) _ _ (fun _ k => absurd c2.2 k) (fun _ _ => ?_) (fun k => absurd y k) (fun k => absurd y k)
          exact h I2 g2 c2.2 (fun _ => ⟨_, _, k2, show (fl (R ++ [((rcl B t c p v).2.2.2.1, (rcl B t c p v).2.2.2.2)])).length ≤ 400 by omega⟩)
        · have e : rlL B t (F + 1) c p v R = (1 + 8 * sk B t (rcl B t c p v).2.1, []) := by rw [rlL, if_neg (fun q => q z), if_neg y, if_neg y2]
          have en : ¬ (1 + 8 * sk B t (rcl B t c p v).2.1) = 0 := by omega
          rw [e, bI_f en] at h
          have g := mFail_n (q := sk B t (rcl B t c p v).2.1) (w := 0) (by decide) c2
          refine sy_Model_readsAll_74 (d := d + 10) _ _ (fun k => absurd k y) (fun k => absurd k y) (fun _ _ => ?_) (fun _ k => ?_)
          · rw [c2.1]
            exact h _ (g2.tr (frX.F g.1 (by decide))) g.2.2 (fun k => absurd k en)
          · rw [c2.1] at k
            exact absurd (g.2.2.symm.trans k) (nI_ne0 (n := 1 + 8 * sk B t (rcl B t c p v).2.1) (by omega) (by omega))
      · have y : ¬ pk B t (rcl B t c p v).2.1 = -1 := fun k => by rw [k] at y2; exact absurd y2 (by decide)
        have e : rlL B t (F + 1) c p v R = rlL B t F (c + 1) (sk B t (rcl B t c p v).2.1 + 1) (rcl B t c p v).2.2.1 (R ++ [((rcl B t c p v).2.2.2.1, (rcl B t c p v).2.2.2.2)]) := by rw [rlL, if_neg (fun q => q z), if_neg y, if_pos y2]
        rw [e] at h
        have hlt := pk_m y
        rw [c1.1, nI_1]
        have g2 : frX tx I0 (am_u I1 186 14 (nI (sk B t (rcl B t c p v).2.1 + 1))) := g1.tr (frX.F (F := [14]) (frm.rf.uf (by simp)) (by decide))
        have hT2 : tpM (am_u I1 186 14 (nI (sk B t (rcl B t c p v).2.1 + 1))) B t := tpM_fr (S := []) (F := [14]) (frm.rf.uf (by simp)) (by decide) (by decide) hT1
        have hR2 : (R ++ [((rcl B t c p v).2.2.2.1, (rcl B t c p v).2.2.2.2)]).length = c + 1 := by rw [List.length_append]; show R.length + 1 = c + 1; omega
        refine sp_ruleClause (d := d) (c := c + 1) (p := sk B t (rcl B t c p v).2.1 + 1) hT2 (by omega) (kpM_F (F := [14]) (frm.rf.uf (by simp)) (by decide) ⟨am_u_at, by rw [am_u_nk (by decide)]; exact c1.2⟩ k1) hR2 (by omega) (by rw [am_u_nk (by decide), f1.2 20 (by decide)]; exact o3) q5 (by omega) (fun I3 g3 e3 o3 => ?_)
        refine sy_Model_readsAll_62 (d := d + 10) _ _ ?_
        exact ih (c + 1) _ _ _ I3 (by omega) (by omega) hR2 (by omega) q5 (by omega) (g3.T hT2) (g2.tr g3) h e3 o3
    · have e : rlL B t (F + 1) c p v R = ((rcl B t c p v).1, []) := by rw [rlL, if_pos z]
      rw [e, bI_f z] at h
      refine sy_Model_readsAll_35 (d := d + 10) _ (fun _ _ => ?_) (fun _ k => ?_) (fun k => absurd (bI_f z) k)
      · exact h I g0 he (fun k => absurd k z)
      · rw [he] at k
        exact absurd ((nI_eq (b := 0) (by have := hle.1; omega) (by decide)).mp k) z
/-- what a rule of the reference may change -/
def frY (tx : Nat) (I I' : am_I) : Prop := frm [188, 189, 190, 191, 195] [1, 2, 14, 15, 16, 17, 18, 19, 20, 22] I I' ∧ (∀ i, i < 400 * tx → I' 188 i = I 188 i) ∧ (∀ i, i < 36 * tx → I' 190 i = I 190 i) ∧ (∀ k, k < tx → I' 191 k = I 191 k)
theorem frX.Y {tx : Nat} {I I' : am_I} (h : frX tx I I') : frY tx I I' := ⟨frm.w h.1 (by decide) (by decide), h.2⟩
theorem frY.tr {tx : Nat} {I I' I2 : am_I} (h : frY tx I I') (g : frY tx I' I2) : frY tx I I2 := ⟨h.1.tr g.1, fun i hi => (g.2.1 i hi).trans (h.2.1 i hi), fun i hi => (g.2.2.1 i hi).trans (h.2.2.1 i hi), fun i hi => (g.2.2.2 i hi).trans (h.2.2.2 i hi)⟩
theorem frY.uf {tx : Nat} {I : am_I} {k : Nat} {v : Int32} (hk : k ∈ [1, 2, 14, 15, 16, 17, 18, 19, 20, 22]) : frY tx I (am_u I 186 k v) := ⟨frm.rf.uf hk, fun i _ => by rw [am_u_ne (by decide)], fun i _ => by rw [am_u_ne (by decide)], fun i _ => by rw [am_u_ne (by decide)]⟩
theorem frY.u9 {tx : Nat} {I : am_I} {k : Nat} {v : Int32} : frY tx I (am_u I 189 k v) := ⟨frm.rf.u (by decide) (by decide), fun i _ => by rw [am_u_ne (by decide)], fun i _ => by rw [am_u_ne (by decide)], fun i _ => by rw [am_u_ne (by decide)]⟩
theorem sp_Model_rule {I : am_I} {n : Nat} (hT : tpM I B t) (hn : I 186 2 = nI n) (hn6 : n ≤ 6)
    (hfull : n = 6 → Q (some (.int (-1))) I L (gg Lx ρ))
    (h0 : n < 6 → ¬ (pRl B t).1 = 0 → ∀ I', frY n I I' → I' 186 2 = I 186 2 → I' 186 1 = 0 → Q (some (.int (-2 - nI (pRl B t).1))) I' L (gg Lx ρ))
    (h1 : n < 6 → (pRl B t).1 = 0 → ∀ I', frY n I I' → I' 186 2 = nI (n + 1) → I' 186 1 = 0 → I' 191 n = nI (pRl B t).2.length → clsAt I' n 0 (pRl B t).2 → Q (some (.int (nI n))) I' L (gg Lx ρ)) : am_run (d + 13) m_Model_rule [.ref 186] I L (gg Lx ρ) Q := by
  have hB := fun i hi => (hT.2.2 i hi).2
  have ht := hT.2.1
  refine run_in rfl rfl ⟨rfl, rfl⟩ (sz_Model_rule_0 (fun z => ?_) (fun z => ?_) (fun z => ?_))
  · rw [hn] at z ⊢
    exact vp_in_nI (by have : n ≠ 6 := fun k => z (by rw [k]; rfl)
                       omega) (by decide)
  · rw [hn] at z ⊢
    have n6 : n < 6 := by
      have : n ≠ 6 := fun k => z (by rw [k]; rfl)
      omega
    rw [nI_clamp (by omega)]
    have e17 : am_u (am_u I 186 17 (nI n)) 191 n 0 186 17 = nI n := by rw [am_u_ne (by decide), am_u_at]
    refine run_in (d := d + 11) rfl rfl ⟨rfl, rfl⟩ (sy_Model_readsAll_0 (d := d + 10) ?_ ?_)
    · rw [e17]; exact vp_in_nI (by omega) (by decide)
    · rw [e17, nI_clamp (by omega)]
      have gJ : frY n I (am_u (am_u (am_u (am_u (am_u (am_u (am_u I 186 17 (nI n)) 191 n 0) 189 n 0) 186 20 0) 186 14 0) 186 15 0) 186 18 0) :=
        (((((((frY.uf (by decide)).tr (⟨frm.rf.u (by decide) (by decide), fun i _ => by rw [am_u_ne (by decide)], fun i _ => by rw [am_u_ne (by decide)], fun k hk => am_u_nk (by omega)⟩ : frY n (am_u I 186 17 (nI n)) (am_u (am_u I 186 17 (nI n)) 191 n 0))).tr frY.u9).tr (frY.uf (by decide))).tr (frY.uf (by decide))).tr (frY.uf (by decide))).tr (frY.uf (by decide)))
      have hTJ : tpM (am_u (am_u (am_u (am_u (am_u (am_u (am_u I 186 17 (nI n)) 191 n 0) 189 n 0) 186 20 0) 186 14 0) 186 15 0) 186 18 0) B t := by
        refine ⟨?_, ht, ?_⟩
        · rw [am_u_nk (by decide), am_u_nk (by decide), am_u_nk (by decide), am_u_nk (by decide), am_u_ne (by decide), am_u_ne (by decide), am_u_nk (by decide)]; exact hT.1
        · rw [gJ.1.1 187 (by decide) (by decide)]; exact hT.2.2
      have j2 : (am_u (am_u (am_u (am_u (am_u (am_u (am_u I 186 17 (nI n)) 191 n 0) 189 n 0) 186 20 0) 186 14 0) 186 15 0) 186 18 0) 186 2 = nI n := by
        rw [am_u_nk (by decide), am_u_nk (by decide), am_u_nk (by decide), am_u_nk (by decide), am_u_ne (by decide), am_u_ne (by decide), am_u_nk (by decide)]; exact hn
      have hkJ : kpM (am_u (am_u (am_u (am_u (am_u (am_u (am_u I 186 17 (nI n)) 191 n 0) 189 n 0) 186 20 0) 186 14 0) 186 15 0) 186 18 0) 0 0 n [] := by
        refine ⟨⟨⟨?_, ?_⟩, ?_, by omega, ?_, ?_, trivial⟩, ?_, trivial⟩
        · rw [am_u_nk (by decide), am_u_nk (by decide), am_u_at]; rfl
        · rw [am_u_nk (by decide), am_u_at]; rfl
        · rw [am_u_nk (by decide), am_u_nk (by decide), am_u_nk (by decide), am_u_nk (by decide), am_u_ne (by decide)]; exact e17
        · rw [am_u_at]; rfl
        · rw [am_u_ne (by decide), am_u_ne (by decide), am_u_ne (by decide), am_u_ne (by decide), am_u_at]; rfl
        · rw [am_u_ne (by decide), am_u_ne (by decide), am_u_ne (by decide), am_u_ne (by decide), am_u_ne (by decide), am_u_at]; rfl
      refine sp_ruleClause (d := d) (c := 0) (p := 0) (v := 0) (R := []) hTJ (Nat.zero_le _) hkJ rfl (by omega) (by rw [am_u_nk (by decide), am_u_nk (by decide), am_u_nk (by decide), am_u_at]; rfl) (by omega) (Nat.zero_le _) (fun I1 g1 e1 o1 => ?_)
      refine sy_Model_readsAll_34 (d := d + 10) _ _ ?_
      refine lp_rall (d := d) (tx := n) (I0 := I1) 13 0 0 0 [] I1 (by omega) (by omega) rfl (Nat.zero_le _) (by omega) (Nat.zero_le _) (g1.T hTJ) frX.rf (fun I2 g2 e2 o2 => ?_) e1 o1
      have e2 : I2 186 15 = nI (pRl B t).1 := e2
      have o2 : (pRl B t).1 = 0 → ∃ p' v', kpM I2 p' v' n (pRl B t).2 ∧ (fl (pRl B t).2).length ≤ 400 := o2
      have g3 : frY n I (am_u I2 186 1 0) := (gJ.tr (g1.tr g2).Y).tr (frY.uf (by decide))
      have i2 : am_u I2 186 1 0 186 2 = nI n := by rw [am_u_nk (by decide), g2.1.2 2 (by decide), g1.1.2 2 (by decide)]; exact j2
      show am_W am_all _ e_Model_rule Q 33 [.ref 186] [.int (bI ((pRl B t).1 = 0))] (am_u I2 186 1 0) L (gg Lx ρ) 0 0
      refine sz_Model_rule_33 _ (fun z => ?_) (fun z => ?_)
      · have z := bI1 z
        obtain ⟨p', v', k2, l2⟩ := o2 z
        rw [i2, nI_1, nI_pred]
        refine h1 n6 z _ (g3.tr (frY.uf (by decide))) am_u_at ?_ ?_ ?_
        · rw [am_u_nk (by decide), am_u_at]
        · rw [am_u_ne (by decide), am_u_ne (by decide)]; exact k2.2.1
        · refine recs_cls (b := 0) (recs_c (fun i _ => by rw [am_u_ne (by decide), am_u_ne (by decide)]) k2.2.2) ?_ (by omega)
          rw [am_u_ne (by decide), am_u_ne (by decide)]; exact k2.1.2.2.2.2.2
      · have z := bI0 z
        have e15 : am_u I2 186 1 0 186 15 = nI (pRl B t).1 := by rw [am_u_nk (by decide)]; exact e2
        rw [e15]
        exact h0 n6 z _ g3 (i2.trans hn.symm) am_u_at
  · rw [hn] at z
    exact hfull ((nI_eq (b := 6) (by omega) (by decide)).mp z)
end RMQ
