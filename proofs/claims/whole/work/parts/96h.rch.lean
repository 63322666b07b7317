/-! ===== rule: its clauses, and the class reads them ===== -/
def rcl (B : Nat → Nat) (t c p v : Nat) : Nat × Nat × Nat × Nat × List Nat :=
  if isW B t (sk B t p) wBar = true then (if c < 12 then ((testF B t (factP B t 10) (sk B t p + 3) v).1, (testF B t (factP B t 10) (sk B t p + 3) v).2.1, (testF B t (factP B t 10) (sk B t p + 3) v).2.2.1, 0, (testF B t (factP B t 10) (sk B t p + 3) v).2.2.2) else (1 + 8 * sk B t p + 4, 0, 0, 0, []))
  else if isW B t (sk B t p) wWip = true then (if c < 12 then ((testF B t (factP B t 10) (sk B t p + 4) v).1, (testF B t (factP B t 10) (sk B t p + 4) v).2.1, (testF B t (factP B t 10) (sk B t p + 4) v).2.2.1, 1, (testF B t (factP B t 10) (sk B t p + 4) v).2.2.2) else (1 + 8 * sk B t p + 4, 0, 0, 0, []))
  else (1 + 8 * sk B t p, 0, 0, 0, [])
def rlL (B : Nat → Nat) (t : Nat) : Nat → Nat → Nat → Nat → List (Nat × List Nat) → Nat × List (Nat × List Nat)
  | 0, _, _, _, _ => (1, [])
  | F + 1, c, p, v, R => if ¬ (rcl B t c p v).1 = 0 then ((rcl B t c p v).1, [])
    else if pk B t (rcl B t c p v).2.1 = -1 then (0, R ++ [((rcl B t c p v).2.2.2.1, (rcl B t c p v).2.2.2.2)])
    else if pk B t (rcl B t c p v).2.1 = 59 then rlL B t F (c + 1) (sk B t (rcl B t c p v).2.1 + 1) (rcl B t c p v).2.2.1 (R ++ [((rcl B t c p v).2.2.2.1, (rcl B t c p v).2.2.2.2)])
    else (1 + 8 * sk B t (rcl B t c p v).2.1, [])
def pRl (B : Nat → Nat) (t : Nat) : Nat × List (Nat × List Nat) := rlL B t 13 0 0 0 []
theorem rcl_g {B : Nat → Nat} {t c p v : Nat} (hB : ∀ i, i < t → B i < 256) (ht : t ≤ 400) (hp : p ≤ t) : (rcl B t c p v).1 < 4000 ∧ ((rcl B t c p v).1 = 0 → c < 12 ∧ p + 3 < (rcl B t c p v).2.1 ∧ (rcl B t c p v).2.1 ≤ t ∧ (rcl B t c p v).2.2.2.2.length + p + 3 ≤ (rcl B t c p v).2.1 ∧ (rcl B t c p v).2.2.1 ≤ 60 ∧ (rcl B t c p v).2.2.2.1 ≤ 1 ∧ wfC ((rcl B t c p v).2.2.2.1, (rcl B t c p v).2.2.2.2)) := by
  have hs := sk_le (B := B) hp
  have b4 : 1 + 8 * sk B t p + 4 < 4000 := by omega
  unfold rcl
  by_cases y1 : isW B t (sk B t p) wBar = true
  · rw [if_pos y1]
    have hq : sk B t p + 3 ≤ t := isW_le hs.2 y1
    by_cases y : c < 12
    · rw [if_pos y]
      have g := testF_g (B := B) ht (factP_g hB ht 10) (v := v) hq
      refine ⟨g.1, fun z => ?_⟩
      obtain ⟨g1, g2, g3, g4, g5, g6⟩ := g.2 z
      exact ⟨y, by dsimp only; omega, g2, by dsimp only; omega, g5, by dsimp only; omega, g6 [], by dsimp only; omega⟩
    · rw [if_neg y]; exact ⟨b4, fun z => absurd (show 1 + 8 * sk B t p + 4 = 0 from z) (by omega)⟩
  · rw [if_neg y1]
    by_cases y2 : isW B t (sk B t p) wWip = true
    · rw [if_pos y2]
      have hq : sk B t p + 4 ≤ t := isW_le hs.2 y2
      by_cases y : c < 12
      · rw [if_pos y]
        have g := testF_g (B := B) ht (factP_g hB ht 10) (v := v) hq
        refine ⟨g.1, fun z => ?_⟩
        obtain ⟨g1, g2, g3, g4, g5, g6⟩ := g.2 z
        exact ⟨y, by dsimp only; omega, g2, by dsimp only; omega, g5, by dsimp only; omega, g6 [], by dsimp only; omega⟩
      · rw [if_neg y]; exact ⟨b4, fun z => absurd (show 1 + 8 * sk B t p + 4 = 0 from z) (by omega)⟩
    · rw [if_neg y2]; exact ⟨by show 1 + 8 * sk B t p < 4000; omega, fun z => absurd (show 1 + 8 * sk B t p = 0 from z) (by omega)⟩
theorem rlL_g {B : Nat → Nat} {t : Nat} (hB : ∀ i, i < t → B i < 256) (ht : t ≤ 400) : ∀ F c p v R, p ≤ t → R.length = c → (∀ x ∈ R, wfC x ∧ x.1 ≤ 1) → (rlL B t F c p v R).1 < 4000 ∧ ((rlL B t F c p v R).1 = 0 → (rlL B t F c p v R).2.length ≤ 12 ∧ ∀ x ∈ (rlL B t F c p v R).2, wfC x ∧ x.1 ≤ 1) := by
  intro F
  induction F with
  | zero => intro c p v R _ _ _; exact ⟨by show 1 < 4000; decide, fun z => absurd (show 1 = 0 from z) (by decide)⟩
  | succ F ih =>
    intro c p v R hp hR hw
    have g := rcl_g (c := c) (v := v) hB ht hp
    rw [rlL]
    by_cases z : (rcl B t c p v).1 = 0
    · rw [if_neg (fun k => k z)]
      obtain ⟨g1, g2, g3, g4, g5, g6, g7⟩ := g.2 z
      have hw2 : ∀ x ∈ R ++ [((rcl B t c p v).2.2.2.1, (rcl B t c p v).2.2.2.2)], wfC x ∧ x.1 ≤ 1 := by
        intro x hx
        rcases List.mem_append.mp hx with k | k
        · exact hw x k
        · have : x = ((rcl B t c p v).2.2.2.1, (rcl B t c p v).2.2.2.2) := by simpa using k
          subst this; exact ⟨g7, g6⟩
      have hs := sk_le (B := B) g3
      by_cases y : pk B t (rcl B t c p v).2.1 = -1
      · rw [if_pos y]
        exact ⟨by show 0 < 4000; decide, fun _ => ⟨by show (R ++ [_]).length ≤ 12; rw [List.length_append]; show R.length + 1 ≤ 12; omega, hw2⟩⟩
      · rw [if_neg y]
        have := pk_m y
        by_cases y2 : pk B t (rcl B t c p v).2.1 = 59
        · rw [if_pos y2]
          exact ih _ _ _ _ (by omega) (by rw [List.length_append]; show R.length + 1 = c + 1; omega) hw2
        · rw [if_neg y2]
          exact ⟨by show 1 + 8 * sk B t (rcl B t c p v).2.1 < 4000; omega, fun k => absurd (show 1 + 8 * sk B t (rcl B t c p v).2.1 = 0 from k) (by omega)⟩
    · rw [if_pos z]; exact ⟨g.1, fun k => absurd k z⟩
theorem rcC_sn {R : List (Nat × List Nat)} {s : Nat} {o : List Nat} : (fun k => rcC k (R ++ [(s, o)])) = ap (ap (fun k => rcC k R) s (o.map tkC)) s [100021] := by
  rw [ap_ap]
  funext k
  induction R with
  | nil =>
    show (if s = k then o.map tkC ++ [100021] else []) ++ [] = _
    rw [List.append_nil]
    by_cases z : k = s
    · subst z; rw [if_pos rfl, ap_s]; rfl
    · rw [if_neg (fun q => z q.symm), ap_n z]; rfl
  | cons c R ih =>
    show (if c.1 = k then c.2.map tkC ++ [100021] else []) ++ rcC k (R ++ [(s, o)]) = _
    rw [ih]
    by_cases z : k = s
    · subst z; rw [ap_s, ap_s]; show _ ++ (rcC k R ++ _) = ((if c.1 = k then c.2.map tkC ++ [100021] else []) ++ rcC k R) ++ _; rw [List.append_assoc]
    · rw [ap_n z, ap_n z]; rfl
section RCH
variable {d Lx : Nat} {ρ : List (Nat × Nat)} {Q : am_Q}
theorem w_Bar : am_strs 6 = wBar.map nI := by decide
theorem w_Wip : am_strs 7 = wWip.map nI := by decide
theorem sd_ok {I : am_I} {p v s s' : Nat} {Cs : Nat → List Nat} (h : pcR I p v s Cs) (hs : s' ≤ 1) : pcR (am_u I 16 3 (nI s')) p v s' Cs := by
  obtain ⟨⟨h0, h1⟩, h2, h3, h4, h5⟩ := h
  refine ⟨⟨by rw [am_u_ne (by decide)]; exact h0, by rw [am_u_ne (by decide)]; exact h1⟩, am_u_at, hs, by rw [am_u_nk (by decide)]; exact h4, fun k hk => ?_⟩
  rw [am_u_ne (by decide), am_u_ne (by omega)]; exact h5 k hk
/-- the class has read the rule R -/
def rdC (I : am_I) (R : List (Nat × List Nat)) : Prop := ∀ k, k < 2 → I 20 k = nI (rcC k R).length ∧ (rcC k R).length < 400 ∧ segAt (I (18 + k)) 0 (rcC k R)
theorem lp_rread {L : am_L} {B : Nat → Nat} {t : Nat} {I0 : am_I} (hB : ∀ i, i < t → B i < 256) (ht : t ≤ 400) : ∀ F c p v s R I x2, c + F = 13 → c ≤ 12 → p ≤ t → tpC I B t → pcR I p v s (fun k => rcC k R) → v ≤ 60 → (∀ k, (rcC k R).length ≤ p) → frG I0 I →
    ((rlL B t F c p v R).1 = 0 → ∀ I', frG I0 I' → I' 13 3 = 0 → (∃ s, s ≤ 1 ∧ I' 16 3 = nI s) → rdC I' (rlL B t F c p v R).2 → Q none I' L (gg Lx ρ)) →
    (¬ (rlL B t F c p v R).1 = 0 → ∀ I', frG I0 I' → I' 13 3 = nI (rlL B t F c p v R).1 → (∃ s, s ≤ 1 ∧ I' 16 3 = nI s) → Q none I' L (gg Lx ρ)) →
    am_W am_all (am_run (d + 27)) e_RuleReader_read Q 28 [.ref 16, .int (nI c), x2] [] I L (gg Lx ρ) 0 0 := by
  intro F
  induction F with
  | zero => intro c p v s R I x2 h1 h2; omega
  | succ F ih =>
    intro c p v s R I x2 hcF hc12 hp hT hs hv hl g0 h1 h0
    have hk := sk_le (B := B) hp
    have hid := sk_id (B := B) hp ht
    have g := rcl_g (c := c) (v := v) hB ht hp
    have c12 : nI c < 12 ↔ c < 12 := ⟨fun z => Decidable.byContradiction fun q => nI_nlt (b := 12) (by omega) (by omega) z, fun z => nI_lt (b := 12) z (by decide)⟩
    refine sy_RuleReader_read_28 (d := d + 26) _ _ (fun z => absurd (nI_lt (b := 400) (by omega) (by decide)) z) (fun _ => ?_)
    refine sp_peek (d := d + 26) hT hp hs.1 (fun I1 f1 c1 => ?_)
    have hT1 := tpC_fr f1 hT
    have s1 := pcR_13 f1 c1 hs
    refine sy_RuleReader_read_42 (d := d + 26) _ _ _ ?_
    rw [c1.1]
    -- behind the test, ill
    have ill : ∀ {J : am_I} {e : Nat}, frG I0 J → bdR J t e → ¬ e = 0 → e < 4000 → tpC J B t → (rcl B t c p v).1 = e → am_W am_all (am_run (d + 27)) e_RuleReader_read Q 120 [.ref 16, .int (nI c), .int (nI (sk B t p))] [] J L (gg Lx ρ) 0 0 := by
      intro J e gJ bJ he he2 hTJ ee
      have es : rlL B t (F + 1) c p v R = (e, []) := by rw [rlL, if_pos (by rw [ee]; exact he), ee]
      rw [es] at h0
      have oJ := bdR_o bJ
      have wJ := wrt_bd (x := 100021) bJ
      obtain ⟨⟨pb, hpb, cb⟩, sb, _⟩ := id wJ.1
      refine sy_RuleReader_read_120 (d := d + 26) _ _ oJ.1 oJ.2 ?_
      refine sp_goesOn (d := d + 25) (e := e) (p := pb) (wJ.2.T hTJ) cb.2 he2 (fun z => absurd z he) (fun _ => ?_) (fun z => absurd z he) (fun z => absurd z he) (fun z => absurd z he)
      refine sy_RuleReader_read_133 (d := d + 26) _ _ _ (fun q => absurd rfl q) (fun _ => ?_)
      exact h0 he _ (gJ.tr wJ.2) cb.2 sb
    -- a test is read
    have test : ∀ {J : am_I} {q s' : Nat}, frG I0 J → tpC J B t → q ≤ t → p + 3 ≤ q → s' ≤ 1 → pcR J q v s' (fun k => rcC k R) → rcl B t c p v = ((testF B t (factP B t 10) q v).1, (testF B t (factP B t 10) q v).2.1, (testF B t (factP B t 10) q v).2.2.1, s', (testF B t (factP B t 10) q v).2.2.2) → am_run (d + 27) m_RuleReader_readTest [.ref 16, .int 0] J L (gg Lx ρ) (fun r I' L' G' => am_W am_all (am_run (d + 27)) e_RuleReader_read Q 120 [.ref 16, .int (nI c), .int (nI (sk B t p))] (r.toList ++ ([] : List Value)) I' L' G' 0 0) := by
      intro J q s' gJ hTJ hq hpq hs' sJ e
      have ok : okF (d + 23 + 3) Lx ρ (nI 0) B t (factP B t 10) := @fact_ok Lx ρ B t hB ht 10 d (by decide)
      refine sp_readTest (d := d + 23) (x := nI 0) ok (factP_g hB ht 10) hTJ hq sJ hv (by have := hl s'; show (rcC s' R).length ≤ q; omega) (fun z I2 g2 s2 => ?_) (fun z I2 g2 b2 => ?_)
      · have z' : (rcl B t c p v).1 = 0 := by rw [e]; exact z
        obtain ⟨q1, q2, q3, q4, q5, q6, q7⟩ := g.2 z'
        have ep : (rcl B t c p v).2.1 = (testF B t (factP B t 10) q v).2.1 := by rw [e]
        have ev : (rcl B t c p v).2.2.1 = (testF B t (factP B t 10) q v).2.2.1 := by rw [e]
        have eo : (rcl B t c p v).2.2.2.2 = (testF B t (factP B t 10) q v).2.2.2 := by rw [e]
        have esn : (rcl B t c p v).2.2.2.1 = s' := by rw [e]
        rw [← ep, ← ev, ← eo] at s2
        have o2 := bdR_o (pcR_bd q3 s2)
        have wo := wrt_ok (x := 100021) s2 (by rw [ap_s, List.length_append, List.length_map]; have := hl s'; show (rcC s' R).length + _ < 400; omega)
        have sw := wo.1
        rw [← rcC_sn] at sw
        have hTw := (g2.tr wo.2).T hTJ
        have hg := gJ.tr (g2.tr wo.2)
        have hl2 : ∀ k, (rcC k (R ++ [(s', (rcl B t c p v).2.2.2.2)])).length + 2 ≤ (rcl B t c p v).2.1 := by
          intro k
          have e1 : rcC k (R ++ [(s', (rcl B t c p v).2.2.2.2)]) = ap (ap (fun k => rcC k R) s' ((rcl B t c p v).2.2.2.2.map tkC)) s' [100021] k := congrFun rcC_sn k
          rw [e1, ap_ap]
          have := hl k
          by_cases y : k = s'
          · subst y; rw [ap_s]; simp only [List.length_append, List.length_map, List.length_cons, List.length_nil]; omega
          · rw [ap_n y]; omega
        refine sy_RuleReader_read_120 (d := d + 26) _ _ o2.1 o2.2 ?_
        refine sp_goesOn (d := d + 25) (e := 0) (p := (rcl B t c p v).2.1) hTw sw.1.2 (by decide) (fun _ => ⟨q3, sw.1⟩) (fun k => absurd rfl k) (fun _ y I3 f3 c3 => ?_) (fun _ y y2 I3 f3 c3 => ?_) (fun _ y y2 I3 f3 c3 => ?_)
        · refine sy_RuleReader_read_133 (d := d + 26) _ _ _ (fun k => absurd rfl k) (fun _ => ?_)
          have es : rlL B t (F + 1) c p v R = (0, R ++ [(s', (rcl B t c p v).2.2.2.2)]) := by rw [rlL, if_neg (fun k => k z'), if_pos y, esn]
          rw [es] at h1
          refine h1 rfl I3 (hg.tr (frG.o3 f3)) c3 ⟨s', hs', by rw [f3.1 16 (by decide)]; exact sw.2.1⟩ (fun k hk2 => ?_)
          have := sw.2.2.2.2 k hk2
          rw [f3.1 20 (by decide), f3.1 (18 + k) (by omega)]
          have hk3 := hl2 k
          exact ⟨this.1, show (rcC k (R ++ [(s', (rcl B t c p v).2.2.2.2)])).length < 400 by omega, this.2.2⟩
        · refine sy_RuleReader_read_133 (d := d + 26) _ _ _ (fun _ => ?_) (fun k => absurd k (by decide))
          have es : rlL B t (F + 1) c p v R = rlL B t F (c + 1) (sk B t (rcl B t c p v).2.1 + 1) (rcl B t c p v).2.2.1 (R ++ [(s', (rcl B t c p v).2.2.2.2)]) := by rw [rlL, if_neg (fun k => k z'), if_neg y, if_pos y2, esn]
          rw [es] at h1 h0
          have hlt := pk_m y
          have hk2 := sk_le (B := B) q3
          rw [nI_1]
          exact ih (c + 1) _ _ s' _ I3 _ (by omega) (by omega) (by omega) (tpC_fr f3 hTw) (pcR_13 f3 c3 sw) q5 (fun k => by have := hl2 k; omega) (hg.tr (frG.o3 f3)) h1 h0
        · refine sy_RuleReader_read_133 (d := d + 26) _ _ _ (fun k => absurd rfl k) (fun _ => ?_)
          have es : rlL B t (F + 1) c p v R = (1 + 8 * sk B t (rcl B t c p v).2.1, []) := by rw [rlL, if_neg (fun k => k z'), if_neg y, if_neg y2]
          rw [es] at h0
          exact h0 (by show ¬ 1 + 8 * sk B t (rcl B t c p v).2.1 = 0; omega) I3 (hg.tr (frG.o3 f3)) c3 ⟨s', hs', by rw [f3.1 16 (by decide)]; exact sw.2.1⟩
      · have hgt := testF_g (B := B) ht (factP_g hB ht 10) (v := v) hq
        exact ill (gJ.tr g2) b2 z hgt.1 (g2.T hTJ) (by rw [e])
    -- an ill test
    have testb : ∀ {J : am_I} {e : Nat}, frG I0 J → tpC J B t → bdR J t e → ¬ e = 0 → e < 4000 → (rcl B t c p v).1 = e → am_run (d + 27) m_RuleReader_readTest [.ref 16, .int 0] J L (gg Lx ρ) (fun r I' L' G' => am_W am_all (am_run (d + 27)) e_RuleReader_read Q 120 [.ref 16, .int (nI c), .int (nI (sk B t p))] (r.toList ++ ([] : List Value)) I' L' G' 0 0) := by
      intro J e gJ hTJ bJ he he2 ee
      exact sp_readTest_b (d := d + 24) bJ he he2 (fun I2 g2 b2 => ill (gJ.tr g2) b2 he he2 (g2.T hTJ) ee)
    refine sp_passWord (d := d + 25) hT1 hk.2 (by decide) w_Bar (by decide) (by decide) c1 (fun I2 f2 c2 => ?_)
    rw [hid] at c2
    rw [hid]
    have f12 := f1.tr f2
    have hT2 := tpC_fr f12 hT
    have g2 := g0.tr (frG.o3 f12)
    by_cases y1 : isW B t (sk B t p) wBar = true
    · rw [if_pos y1] at c2
      have hq : sk B t p + 3 ≤ t := isW_le hk.2 y1
      have s2 := sd_ok (s' := 0) (pcR_13 f12 c2 hs) (by decide)
      refine sy_RuleReader_read_60 (d := d + 26) _ _ _ (fun z => absurd y1 (bI0 z)) (fun _ z => ?_) (fun _ z => ?_)
      · refine test (g2.tr (frG.u (by omega))) ((frG.u (by omega)).T hT2) hq (by omega) (by decide) s2 ?_
        unfold rcl; rw [if_pos y1, if_pos (c12.mp z)]
      · have b := bdR_f (q := sk B t p) (w := 4) (pcR_bd hq s2) (by decide)
        refine testb ((g2.tr (frG.u (by omega))).tr b.2) (b.2.T ((frG.u (by omega)).T hT2)) b.1 (by show ¬ 1 + 8 * sk B t p + 4 = 0; omega) (by show 1 + 8 * sk B t p + 4 < 4000; omega) ?_
        unfold rcl; rw [if_pos y1, if_neg (fun k => z (c12.mpr k))]; rfl
    · rw [if_neg y1] at c2
      have s2 := pcR_13 f12 c2 hs
      refine sy_RuleReader_read_60 (d := d + 26) _ _ _ (fun _ => ?_) (fun z => absurd (bI_f y1) z) (fun z => absurd (bI_f y1) z)
      refine sp_passWord (d := d + 25) hT2 hk.2 (by decide) w_Wip (by decide) (by decide) c2 (fun I3 f3 c3 => ?_)
      rw [hid] at c3
      rw [hid]
      have hT3 := tpC_fr f3 hT2
      have g3 := g2.tr (frG.o3 f3)
      by_cases y2 : isW B t (sk B t p) wWip = true
      · rw [if_pos y2] at c3
        have hq : sk B t p + 4 ≤ t := isW_le hk.2 y2
        have s3 := sd_ok (s' := 1) (pcR_13 f3 c3 s2) (by decide)
        refine sy_RuleReader_read_80 (d := d + 26) _ _ _ (fun z => absurd y2 (bI0 z)) (fun z => absurd y2 (bI0 z)) (fun _ z => ?_) (fun _ z => ?_)
        · refine test (g3.tr (frG.u (by omega))) ((frG.u (by omega)).T hT3) hq (by omega) (by decide) s3 ?_
          unfold rcl; rw [if_neg y1, if_pos y2, if_pos (c12.mp z)]
        · have b := bdR_f (q := sk B t p) (w := 4) (pcR_bd hq s3) (by decide)
          refine testb ((g3.tr (frG.u (by omega))).tr b.2) (b.2.T ((frG.u (by omega)).T hT3)) b.1 (by show ¬ 1 + 8 * sk B t p + 4 = 0; omega) (by show 1 + 8 * sk B t p + 4 < 4000; omega) ?_
          unfold rcl; rw [if_neg y1, if_pos y2, if_neg (fun k => z (c12.mpr k))]; rfl
      · rw [if_neg y2] at c3
        have s3 := pcR_13 f3 c3 s2
        have b := bdR_f (q := sk B t p) (w := 0) (pcR_bd hk.2 s3) (by decide)
        have ee : (rcl B t c p v).1 = ff 0 (1 + 8 * sk B t p + 0) := by unfold rcl; rw [if_neg y1, if_neg y2]; rfl
        have en : ¬ ff 0 (1 + 8 * sk B t p + 0) = 0 := by show ¬ 1 + 8 * sk B t p + 0 = 0; omega
        have el : ff 0 (1 + 8 * sk B t p + 0) < 4000 := by show 1 + 8 * sk B t p + 0 < 4000; omega
        refine sy_RuleReader_read_80 (d := d + 26) _ _ _ (fun _ z => ?_) (fun _ z => ?_) (fun z => absurd (bI_f y2) z) (fun z => absurd (bI_f y2) z)
        · exact testb (g3.tr b.2) (b.2.T hT3) b.1 en el ee
        · have b' := bdR_f (q := sk B t p) (w := 4) b.1 (by omega)
          have e2 : ff (ff 0 (1 + 8 * sk B t p + 0)) (1 + 8 * sk B t p + 4) = ff 0 (1 + 8 * sk B t p + 0) := if_neg en
          rw [e2] at b'
          exact testb ((g3.tr b.2).tr b'.2) (b'.2.T (b.2.T hT3)) b'.1 en el ee
end RCH
