/-! ===== rule: the reference ===== -/
theorem kpM_F {F : List Nat} {I I' : am_I} {p q v tx : Nat} {R : List (Nat × List Nat)} (h : frF F I I') (hF : 17 ∉ F ∧ 18 ∉ F) (hc : mcu I' q 0) (hs : kpM I p v tx R) : kpM I' q v tx R :=
  ⟨pmR_F h hF hc hs.1, by rw [h.1 191 (by decide) (List.not_mem_nil)]; exact hs.2.1, recs_c (fun i _ => by rw [h.1 190 (by decide) (List.not_mem_nil)]) hs.2.2⟩
section RMR
variable {d Lx : Nat} {ρ : List (Nat × Nat)} {Q : am_Q} {L : am_L} {B : Nat → Nat} {t tx : Nat}
theorem k_Bar : (6447474 : Int64) = lN (pack wBar) := by decide
theorem k_Wip : (2003398757 : Int64) = lN (pack wWip) := by decide
theorem sp_ruleClause {I : am_I} {c p v : Nat} {R : List (Nat × List Nat)} (hT : tpM I B t) (hp : p ≤ t) (hk : kpM I p v tx R) (hc : R.length = c) (hc12 : c ≤ 12) (h20 : I 186 20 = nI c) (hv : v ≤ 60) (hl : (fl R).length ≤ p)
    (h : ∀ I', frX tx I I' → I' 186 15 = nI (rcl B t c p v).1 → ((rcl B t c p v).1 = 0 → kpM I' (rcl B t c p v).2.1 (rcl B t c p v).2.2.1 tx (R ++ [((rcl B t c p v).2.2.2.1, (rcl B t c p v).2.2.2.2)]) ∧ I' 186 20 = nI (c + 1)) → Q (some (.int (bI ((rcl B t c p v).1 = 0)))) I' L (gg Lx ρ)) : am_run (d + 11) m_Model_clauseHere [.ref 186] I L (gg Lx ρ) Q := by
  have ht := hT.2.1
  have hsk := sk_le (B := B) hp
  have hid := sk_id (B := B) hp ht
  have htx := hk.1.2.2.1
  refine run_in rfl rfl ⟨rfl, rfl⟩ (sy_Model_clauseHere_0 (d := d + 9) ?_)
  refine sp_see (d := d + 9) hT hp hk.1.1 (fun I1 f1 c1 => ?_)
  have hT1 := tpM_fr f1 (by decide) (by decide) hT
  have e17 : I1 186 17 = nI tx := by rw [f1.2 17 (by decide)]; exact hk.1.2.1
  have n17 : ¬ I1 186 17 = 6 := by rw [e17]; exact fun q => absurd ((nI_eq (b := 6) (by omega) (by decide)).mp q) (by omega)
  refine sy_Model_clauseHere_4 (d := d + 9) _ _ _ _ (fun _ => ?_) (fun z => absurd z n17)
  rw [c1.1]
  -- the word was found
  have found : ∀ {J : am_I} (so : Nat) (w : List Nat), (so = 0 ∧ w = wBar ∨ so = 1 ∧ w = wWip) → isW B t (sk B t p) w = true → (isW B t (sk B t p) wBar = true ↔ so = 0) → frF [14] I J → mcu J (sk B t p) 0 → (c < 12 → rcl B t c p v = ((testF B t (factP B t 10) (sk B t p + w.length) v).1, (testF B t (factP B t 10) (sk B t p + w.length) v).2.1, (testF B t (factP B t 10) (sk B t p + w.length) v).2.2.1, so, (testF B t (factP B t 10) (sk B t p + w.length) v).2.2.2)) → (¬ c < 12 → rcl B t c p v = (1 + 8 * sk B t p + 4, 0, 0, 0, [])) →
      (¬ J 186 20 = 12 → am_run (d + 10) m_Model_isWord [.ref 186, .long 6447474] (am_u J 186 20 ((J 186 20) + 1)) L (gg Lx ρ) (fun r I' L' G' => am_W am_all (am_run (d + 10)) e_Model_clauseHere Q 169 [.ref 186, .int (nI (sk B t p)), .int 0, .int 1] (r.toList ++ ([.ref 186] : List Value)) I' L' G' 0 0)) ∧ (J 186 20 = 12 → Q (some (.int 0)) (mFail J 4 (nI (sk B t p))) L (gg Lx ρ)) := by
    intro J so w hso hW hbar fJ cJ r1 r0
    have e20 : J 186 20 = nI c := by rw [fJ.2 20 (by decide)]; exact h20
    have hlet : ∀ c ∈ w, 97 ≤ c ∧ c ≤ 122 := by rcases hso with ⟨_, k⟩ | ⟨_, k⟩ <;> subst k <;> decide
    constructor
    · intro z
      rw [e20] at z ⊢
      have zc : c < 12 := by
        have : c ≠ 12 := fun q => z (by rw [q]; rfl)
        omega
      have er := r1 zc
      rw [nI_1]
      have fJ2 : frF [14, 20] I (am_u J 186 20 (nI (c + 1))) := frm.uf (fJ.w (fun _ q => q) (by decide)) (by decide)
      have hT2 := tpM_fr fJ2 (by decide) (by decide) hT
      have c2 : mcu (am_u J 186 20 (nI (c + 1))) (sk B t p) 0 := ⟨by rw [am_u_nk (by decide)]; exact cJ.1, by rw [am_u_nk (by decide)]; exact cJ.2⟩
      refine sp_isWord (d := d + 8) (w := wBar) hT2 hsk.2 (by decide) (by decide) k_Bar c2 (fun I3 f3 c3 => ?_)
      rw [hid] at c3 ⊢
      have f03 : frF [14, 20] I I3 := fJ2.tr (f3.w (fun _ q => q) (by decide))
      have hT3 := tpM_fr f03 (by decide) (by decide) hT
      have k3 := kpM_F f03 (by decide) c3 hk
      have i20 : I3 186 20 = nI (c + 1) := by rw [f3.2 20 (by decide), am_u_at]
      have go : am_run (d + 10) m_Model_isTestHere [.ref 186, .int (nI so)] I3 L (gg Lx ρ) (fun r I' L' G' => am_W am_all (am_run (d + 10)) e_Model_clauseHere Q 180 [.ref 186, .int (nI (sk B t p)), .int 0, .int 1] (r.toList ++ ([] : List Value)) I' L' G' 0 0) := by
        refine sp_isTest (d := d) hT3 hsk.2 hlet hW k3 hv (by omega) (by omega) (fun y I4 g4 k4 e4 => ?_) (fun y I4 g4 e4 => ?_)
        · rw [er] at h
          have hh := h I4 ((frX.F f03 (by decide)).tr g4)
          have y : (testF B t (factP B t 10) (sk B t p + w.length) v).1 = 0 := y
          refine sy_Model_clauseHere_180 (d := d + 9) _ _ _ _ ?_ (Or.inr rfl)
          have h3 := hh (by show I4 186 15 = nI (testF B t (factP B t 10) (sk B t p + w.length) v).1; rw [y]; exact k4.1.1.2) (fun _ => ⟨k4, e4.trans i20⟩)
          rw [bI_t y] at h3
          exact h3
        · rw [er] at h
          have hh := h I4 ((frX.F f03 (by decide)).tr g4) e4 (fun q => absurd q y)
          refine sy_Model_clauseHere_180 (d := d + 9) _ _ _ _ ?_ (Or.inl rfl)
          rw [bI_f y] at hh
          exact hh
      refine sy_Model_clauseHere_169 (d := d + 9) _ _ _ _ (fun q => ?_) (fun q => ?_)
      · have : so = 1 := by
          have : ¬ so = 0 := fun k => bI0 q (hbar.mpr k)
          omega
        subst this; exact go
      · have : so = 0 := hbar.mp (bI1 q)
        subst this; exact go
    · intro z
      rw [e20] at z
      have zc : c = 12 := (nI_eq (b := 12) (by omega) (by decide)).mp z
      have er := r0 (by omega)
      rw [er, bI_f (show ¬ 1 + 8 * sk B t p + 4 = 0 by omega)] at h
      have g := mFail_n (q := sk B t p) (w := 4) (by decide) cJ
      exact h _ ((frX.F fJ (by decide)).tr (frX.F g.1 (by decide))) g.2.2 (fun k => absurd (show 1 + 8 * sk B t p + 4 = 0 from k) (by omega))
  refine sp_isWord (d := d + 8) (w := wBar) hT1 hsk.2 (by decide) (by decide) k_Bar c1 (fun I2 f2 c2 => ?_)
  rw [hid] at c2 ⊢
  have f12 := f1.tr f2
  have hT2 := tpM_fr f12 (by decide) (by decide) hT
  by_cases y1 : isW B t (sk B t p) wBar = true
  · have g := found 0 wBar (Or.inl ⟨rfl, rfl⟩) y1 ⟨fun _ => rfl, fun _ => y1⟩ f12 c2 (fun z => by unfold rcl; rw [if_pos y1, if_pos z]; rfl) (fun z => by unfold rcl; rw [if_pos y1, if_neg z])
    exact sy_Model_clauseHere_84 (d := d + 9) _ _ _ _ (fun _ _ z => g.1 z) (fun _ _ z => g.2 z) (fun _ q => absurd rfl q) (fun _ q => absurd rfl q) (fun z => absurd y1 (bI0 z))
  · refine sy_Model_clauseHere_84 (d := d + 9) _ _ _ _ (fun z => absurd (bI_f y1) z) (fun z => absurd (bI_f y1) z) (fun z => absurd (bI_f y1) z) (fun z => absurd (bI_f y1) z) (fun _ => ?_)
    refine sp_isWord (d := d + 8) (w := wWip) hT2 hsk.2 (by decide) (by decide) k_Wip c2 (fun I3 f3 c3 => ?_)
    rw [hid] at c3 ⊢
    have f13 := f12.tr f3
    by_cases y2 : isW B t (sk B t p) wWip = true
    · have g := found 1 wWip (Or.inr ⟨rfl, rfl⟩) y2 ⟨fun q => absurd q y1, fun q => absurd q (by decide)⟩ f13 c3 (fun z => by unfold rcl; rw [if_neg y1, if_pos y2, if_pos z]; rfl) (fun z => by unfold rcl; rw [if_neg y1, if_pos y2, if_neg z])
      exact sy_Model_clauseHere_94 (d := d + 9) _ _ _ _ (fun z => absurd y2 (bI0 z)) (fun _ _ z => g.1 z) (fun _ _ z => g.2 z) (fun _ q => absurd rfl q) (fun _ q => absurd rfl q)
    · refine sy_Model_clauseHere_94 (d := d + 9) _ _ _ _ (fun _ => ?_) (fun z => absurd (bI_f y2) z) (fun z => absurd (bI_f y2) z) (fun z => absurd (bI_f y2) z) (fun z => absurd (bI_f y2) z)
      have e : rcl B t c p v = (1 + 8 * sk B t p, 0, 0, 0, []) := by unfold rcl; rw [if_neg y1, if_neg y2]
      rw [e, bI_f (show ¬ 1 + 8 * sk B t p = 0 by omega)] at h
      have g := mFail_n (q := sk B t p) (w := 0) (by decide) c3
      exact h _ ((frX.F f13 (by decide)).tr (frX.F g.1 (by decide))) g.2.2 (fun k => absurd (show 1 + 8 * sk B t p = 0 from k) (by omega))
end RMR
