/-! ===== rule: the class's values, sums ===== -/
section RCV
variable {d Lx : Nat} {ρ : List (Nat × Nat)} {Q : am_Q}
theorem lp_poA {C : am_C} {I : am_I} {L : am_L} {B : Nat → Nat} {t q e : Nat} (hT : tpC I B t) (hq : q ≤ t) (hc : cur I q e) : ∀ (ws : List (List Nat)) (j r : Nat) (x6 : Value), rowOk r ws →
    (∀ i l, wIx B t q ws j = some (i, l) → Q (some (.int (nI i))) (am_u I 13 2 (nI (q + l))) L (gg Lx ρ)) → (wIx B t q ws j = none → Q (some (.int (-1))) I L (gg Lx ρ)) →
    am_W am_all C e_Tape_passOneOf Q 18 [.ref 13, .ref 9, .int (nI j), .int (nI q), .int 1, .int (nI r), x6] [] I L (gg Lx ρ) 0 0 := by
  intro ws
  induction ws with
  | nil =>
    intro j r x6 hr h1 h0
    have hr : r = 41 := hr
    subst hr
    have hn : ¬ nI 41 < nI (am_strs 9).length := by rw [row_l]; decide
    exact sz_Tape_passOneOf_18 _ _ _ _ _ _ (by decide) (fun _ => h0 rfl) (fun z => absurd z hn) (fun z => absurd z hn) (fun z => absurd z hn) (fun z => absurd z hn) (fun z => absurd z hn) (fun z => absurd z hn) (fun z => absurd z hn) (fun z => absurd z hn) (fun z => absurd z hn) (fun z => absurd z hn) (fun z => absurd z hn) (fun z => absurd z hn) (fun z => absurd z hn) (fun z => absurd z hn) (fun z => absurd z hn) (fun z => absurd z hn) (fun z => absurd z hn) (fun z => absurd z hn) (fun z => absurd z hn) (fun z => absurd z hn) (fun z => absurd z hn)
  | cons w ws ih =>
    intro j r x6 hr h1 h0
    have h := lp_po (C := C) (I := I) (L := L) (Lx := Lx) (ρ := ρ) (Q := Q) (j := j) hT hq hc hr (fun z => h1 j w.length (by rw [wIx, if_pos z])) (fun z x6 => ih (j + 1) (r + w.length + 1) x6 hr.2.2.2 (fun i l y => h1 i l (by rw [wIx, if_neg z]; exact y)) (fun y => h0 (by rw [wIx, if_neg z]; exact y))) w.length 0 x6 (by omega)
    rw [bI_t (fun i hi => absurd hi (Nat.not_lt_zero i))] at h
    exact h
theorem rowOk_w : rowOk 0 wds := by
  refine ⟨?_, ?_, ?_, ?_, ?_, ?_, ?_, ?_, ?_, ?_, ?_, ?_, ?_, ?_, ?_, ?_, ?_, ?_, ?_, ?_, ?_, ?_, ?_, ?_, ?_, ?_, ?_, ?_⟩ <;> first | decide | rfl
theorem sp_passOneOf {I : am_I} {L : am_L} {B : Nat → Nat} {t p e : Nat} (hT : tpC I B t) (hp : p ≤ t) (hc : cur I p e)
    (h1 : ∀ i l, wIx B t (sk B t p) wds 0 = some (i, l) → ∀ I', fr13 I I' → cur I' (sk B t p + l) e → Q (some (.int (nI i))) I' L (gg Lx ρ))
    (h0 : wIx B t (sk B t p) wds 0 = none → ∀ I', fr13 I I' → cur I' (sk B t p) e → Q (some (.int (-1))) I' L (gg Lx ρ)) : am_run (d + 2) m_Tape_passOneOf [.ref 13, .ref 9] I L (gg Lx ρ) Q := by
  refine run_in rfl rfl ⟨rfl, rfl⟩ (sz_Tape_passOneOf_0 _ ?_)
  refine sp_peek (d := d) hT hp hc (fun I1 f1 c1 => ?_)
  refine sz_Tape_passOneOf_4 _ _ _ _ _ _ _ ?_
  rw [c1.1]
  refine lp_poA (tpC_fr f1 hT) (sk_le hp).2 c1 wds 0 0 _ rowOk_w (fun i l z => h1 i l z _ f1.u2 ⟨am_u_at, ?_⟩) (fun z => h0 z I1 f1 c1)
  rw [am_u_nk (by decide)]; exact c1.2
theorem tk_n (n : Nat) : tkC (16 * n) = n := by
  unfold tkC; rw [if_pos (by omega)]; omega
theorem tk_w (i : Nat) : tkC (1 + 16 * i) = 100000 + i := by
  unfold tkC; rw [if_neg (by omega), if_pos (by omega)]; omega
theorem sp_readValue {I : am_I} {L : am_L} {B : Nat → Nat} {t p v s : Nat} {Cs : Nat → List Nat} (hT : tpC I B t) (hp : p ≤ t) (hs : pcR I p v s Cs) (hv : v ≤ 60) (hl : (Cs s).length ≤ p)
    (h1 : (valP B t p v).1 = 0 → ∀ I', frG I I' → pcR I' (valP B t p v).2.1 (valP B t p v).2.2.1 s (ap Cs s [tkC (valP B t p v).2.2.2]) → Q none I' L (gg Lx ρ))
    (h0 : ¬ (valP B t p v).1 = 0 → ∀ I', frG I I' → bdR I' t (valP B t p v).1 → Q none I' L (gg Lx ρ)) : am_run (d + 4) m_RuleReader_readValue [.ref 16] I L (gg Lx ρ) Q := by
  have hB := fun i hi => (hT.2.2 i hi).2
  have ht := hT.2.1
  have hk := sk_le (B := B) hp
  have hid := sk_id (B := B) hp ht
  have hg := valP_g (v := v) hB ht hp
  refine run_in rfl rfl ⟨rfl, rfl⟩ (sy_RuleReader_readValue_0 (d := d + 1) (fun _ => ?_) (fun z => absurd hs.1.2 z))
  refine sp_peek (d := d + 2) hT hp hs.1 (fun I1 f1 c1 => ?_)
  have hT1 := tpC_fr f1 hT
  have s1 := pcR_13 f1 c1 hs
  -- what follows a value of a code x at q
  have fin1 : ∀ {I2 : am_I} {q x : Nat}, fr13 I1 I2 → cur I2 q 0 → q ≤ t → (Cs s).length < q → valP B t p v = (mk3 v (sk B t p), q, v + 1, x) → (vp_in ((cCnt I2 (nI (sk B t p))) 16 3) 2) ∧ (vp_in ((cCnt I2 (nI (sk B t p))) 20 (((cCnt I2 (nI (sk B t p))) 16 3).toNatClampNeg)) 401) ∧ Q none (cWrt (cCnt I2 (nI (sk B t p))) (nI (tkC x))) L (gg Lx ρ) := by
    intro I2 q x f2 c2 hq hlq e
    have s2 := pcR_13 f2 c2 s1
    have g2 := frG.o3 (f1.tr f2)
    rw [e] at h1 h0
    by_cases y : v < 60
    · have g := cnt_ok (q := nI (sk B t p)) s2 y
      have o := bdR_o (pcR_bd hq g.1)
      have w := wrt_ok (x := tkC x) g.1 (by omega)
      refine ⟨o.1, o.2, h1 (show mk3 v (sk B t p) = 0 from if_pos y) _ ((g2.tr g.2).tr w.2) w.1⟩
    · have g := cnt_full (q := sk B t p) hq s2 y hv
      have o := bdR_o g.1
      have w := wrt_bd (x := nI (tkC x)) g.1
      have em : mk3 v (sk B t p) = 1 + 8 * sk B t p + 3 := if_neg y
      refine ⟨o.1, o.2, h0 (by show ¬ mk3 v (sk B t p) = 0; rw [em]; omega) _ ((g2.tr g.2).tr w.2) (by show bdR _ t (mk3 v (sk B t p)); rw [em]; exact w.1)⟩
  -- what follows a fault
  have finb : ∀ {I2 : am_I} {e : Nat} {x : Int32}, frG I I2 → bdR I2 t e → ¬ e = 0 → e < 4000 → (valP B t p v).1 = e → (vp_in ((cCnt I2 (nI (sk B t p))) 16 3) 2) ∧ (vp_in ((cCnt I2 (nI (sk B t p))) 20 (((cCnt I2 (nI (sk B t p))) 16 3).toNatClampNeg)) 401) ∧ Q none (cWrt (cCnt I2 (nI (sk B t p))) x) L (gg Lx ρ) := by
    intro I2 e x g2 b2 he he2 ee
    have g := cnt_bd (q := sk B t p) b2 (by omega) he
    have o := bdR_o g.1
    have w := wrt_bd (x := x) g.1
    exact ⟨o.1, o.2, h0 (by rw [ee]; exact he) _ ((g2.tr g.2).tr w.2) (by rw [ee]; exact w.1)⟩
  have word : ¬ (sk B t p < t ∧ isD B (sk B t p) = true) → am_run (d + 3) m_Tape_passOneOf [.ref 13, .ref 9] I1 L (gg Lx ρ) (fun r I' L' G' => am_W am_all (am_run (d + 3)) e_RuleReader_readValue Q 63 [.ref 16, .int (pk B t p), .int (nI (sk B t p)), .null, .null] (r.toList ++ ([] : List Value)) I' L' G' 0 0) := by
    intro z
    refine sp_passOneOf (d := d + 1) hT1 hk.2 c1 (fun i l y I2 f2 c2 => ?_) (fun y I2 f2 c2 => ?_)
    · rw [hid] at y c2
      have a := wIx_p hk.2 wds 0 i l (by decide) y
      have e : valP B t p v = (mk3 v (sk B t p), sk B t p + l, v + 1, 1 + 16 * i) := by unfold valP; rw [if_neg z, y]
      have g := fin1 f2 c2 a.2.1 (by omega) e
      have en : ¬ nI i = -1 := nI_nm1 (by have := a.2.2.2; have : wds.length = 9 := rfl; omega)
      have ec : (100000 : Int32) + nI i = nI (tkC (1 + 16 * i)) := by rw [tk_w]; exact nI_add 100000 i
      refine sy_RuleReader_readValue_63 (d := d + 1) _ _ _ _ _ rfl (fun _ => g.1) (fun _ => g.2.1) (fun _ => ?_) (fun z => absurd z en) (fun z => absurd z en) (fun z => absurd z en)
      rw [ec]; exact g.2.2
    · rw [hid] at y c2
      have e : (valP B t p v).1 = 1 + 8 * sk B t p := by unfold valP; rw [if_neg z, y]
      have fl := cFail_n (q := sk B t p) (w := 0) (by decide) c2
      have b2 : bdR (cFail I2 (nI (sk B t p)) 0) t (1 + 8 * sk B t p) := bdR_13 (f2.tr fl.1) hk.2 fl.2 (pcR_bd hk.2 s1)
      refine sy_RuleReader_readValue_63 (d := d + 1) _ _ _ _ _ rfl (fun z => absurd rfl z) (fun z => absurd rfl z) (fun z => absurd rfl z) (fun _ => ?_) (fun _ => ?_) (fun _ => ?_)
      · exact (finb (x := 0) (frG.o3 ((f1.tr f2).tr fl.1)) b2 (by omega) (by omega) e).1
      · exact (finb (x := 0) (frG.o3 ((f1.tr f2).tr fl.1)) b2 (by omega) (by omega) e).2.1
      · exact (finb (frG.o3 ((f1.tr f2).tr fl.1)) b2 (by omega) (by omega) e).2.2
  have hdig : (¬ pk B t p < 48 ∧ ¬ 57 < pk B t p) ↔ (sk B t p < t ∧ isD B (sk B t p) = true) := by
    unfold pk
    by_cases y : sk B t p < t
    · rw [if_pos y]
      have hb := hB _ y
      constructor
      · intro k
        refine ⟨y, decide_eq_true ⟨?_, ?_⟩⟩
        · exact Decidable.byContradiction fun q => k.1 (nI_lt (b := 48) (by omega) (by decide))
        · exact Decidable.byContradiction fun q => k.2 (nI_lt (a := 57) (by omega) (by omega))
      · intro k
        have := of_decide_eq_true k.2
        exact ⟨nI_nlt (b := 48) (by omega) (by omega), nI_nlt (a := 57) (by omega) (by omega)⟩
    · rw [if_neg y]
      exact ⟨fun k => absurd k.1 (fun q => q (by decide)), fun k => absurd k.1 y⟩
  refine sy_RuleReader_readValue_18 (d := d + 1) _ _ _ _ _ (fun z => ?_) (fun z1 z2 => ?_) (fun z1 z2 => ?_)
  · rw [c1.1]; exact word (fun k => (hdig.mpr k).1 z)
  · rw [c1.1]; exact word (fun k => (hdig.mpr k).2 z2)
  · rw [c1.1]
    have z := hdig.mp ⟨z1, z2⟩
    have en : nm B t (sk B t p) 0 99999 (-1) = nm B t p 0 99999 (-1) := nm_sk hp ht
    have a := nm_q (lo := 0) (hi := 99999) (un := -1) hB ht hp
    have gt := nm_gt (lo := 0) (hi := 99999) (un := -1) z
    refine sp_passNumber (d := d + 1) hT1 hk.2 (by decide) c1 (fun I2 f2 c2 => ?_)
    rw [en] at c2 ⊢
    by_cases y : (nm B t p 0 99999 (-1)).1 = 0
    · have e : valP B t p v = (mk3 v (sk B t p), (nm B t p 0 99999 (-1)).2.1, v + 1, 16 * (nm B t p 0 99999 (-1)).2.2) := by unfold valP; rw [if_pos z, y, ff0]
      rw [y] at c2
      have g := fin1 f2 c2 a.1 (by omega) e
      rw [tk_n] at g
      exact sy_RuleReader_readValue_50 (d := d + 1) _ _ _ _ _ g.1 g.2.1 g.2.2
    · have e : (valP B t p v).1 = (nm B t p 0 99999 (-1)).1 := by unfold valP; rw [if_pos z]; exact if_neg y
      have b2 : bdR I2 t (nm B t p 0 99999 (-1)).1 := bdR_13 f2 a.1 c2 (pcR_bd hk.2 s1)
      have g := fun x => finb (x := x) (frG.o3 (f1.tr f2)) b2 y a.2.2 e
      exact sy_RuleReader_readValue_50 (d := d + 1) _ _ _ _ _ (g 0).1 (g 0).2.1 (g _).2.2
theorem sp_readValue_b {I : am_I} {L : am_L} {t e : Nat} (hb : bdR I t e) (he : ¬ e = 0) (he2 : e < 4000) (h : Q none I L (gg Lx ρ)) : am_run (d + 4) m_RuleReader_readValue [.ref 16] I L (gg Lx ρ) Q := by
  obtain ⟨⟨p, hp, h1⟩, _⟩ := hb
  refine run_in rfl rfl ⟨rfl, rfl⟩ (sy_RuleReader_readValue_0 (d := d + 1) (fun z => ?_) (fun _ => h))
  rw [h1.2] at z
  exact absurd ((nI_eq (b := 0) (by omega) (by decide)).mp z) he
end RCV
