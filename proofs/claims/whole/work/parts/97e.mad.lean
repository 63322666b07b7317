/-! ===== rule: what was read becomes a Rule, and stands among the Laws ===== -/
theorem rn_ne {α : Type} {f : Nat → Nat → α} {c y : Nat} {g : Nat → α} (h : y ≠ c) : am_r f c g y = f y := if_neg h
theorem rn_at {α : Type} {f : Nat → Nat → α} {c : Nat} {g : Nat → α} : am_r f c g c = g := if_pos rfl
theorem nw_S {G : am_G} {s : am_Sh} {x : Nat} (h : x ≠ G.2.2) : (am_new G s).2.1 x = G.2.1 x := if_neg h
theorem nw_R {G : am_G} {s : am_Sh} {x : Nat} (h : x ≠ G.2.2) : (am_new G s).1 x = G.1 x := if_neg h
theorem nw_n {G : am_G} {s : am_Sh} : (am_new G s).2.2 = G.2.2 + 1 := rfl
theorem nw_at {G : am_G} {s : am_Sh} : (am_new G s).2.1 G.2.2 = s := if_pos rfl
section MAD
variable {d Lx : Nat} {ρ : List (Nat × Nat)} {Q : am_Q} {L : am_L}
theorem sp_made {I : am_I} {R : List (Nat × List Nat)} {N : Nat} (hN : N = 213 + 3 * ρ.length) (hR : rdC I R)
    (h : ∀ I' L', (∀ a, a < N → I' a = I a) → (∀ j, j < (rcC 0 R).length → I' (N + 1) j = I 18 j) → (∀ j, j < (rcC 1 R).length → I' (N + 2) j = I 19 j) →
      Q (some (.ref N)) I' L' (am_u (am_u (am_new (am_new (am_new (gg Lx ρ) (.inl 6)) (.inr (0, (rcC 0 R).length))) (.inr (0, (rcC 1 R).length))).1 N 0 (N + 1)) N 1 (N + 2), (am_new (am_new (am_new (gg Lx ρ) (.inl 6)) (.inr (0, (rcC 0 R).length))) (.inr (0, (rcC 1 R).length))).2)) : am_run (d + 3) 56 [.ref 16] I L (gg Lx ρ) Q := by
  have h2 : (gg Lx ρ).2.2 = N := hN.symm
  obtain ⟨r00, r01, _⟩ := hR 0 (by decide)
  obtain ⟨r10, r11, _⟩ := hR 1 (by decide)
  have a1 : ∀ {x : Nat}, x < 213 → x ≠ (gg Lx ρ).2.2 := fun z => by rw [h2]; omega
  have a2 : ∀ {x : Nat} {s : am_Sh}, x < 213 → x ≠ (am_new (gg Lx ρ) s).2.2 := fun z => by rw [nw_n, h2]; omega
  have g1 : (am_new (gg Lx ρ) (.inl 6)).1 16 1 = 17 := by rw [nw_R (a1 (by decide))]; rfl
  have g2 : (am_new (gg Lx ρ) (.inl 6)).1 16 2 = 20 := by rw [nw_R (a1 (by decide))]; rfl
  have g3 : (am_new (gg Lx ρ) (.inl 6)).1 17 (Int32.toNatClampNeg 0) = 18 := by rw [nw_R (a1 (by decide))]; rfl
  have g4 : (am_r I (gg Lx ρ).2.2 (fun _ => 0)) 20 (Int32.toNatClampNeg 0) = nI (rcC 0 R).length := by rw [rn_ne (a1 (by decide))]; exact r00
  refine run_in rfl rfl ⟨rfl, rfl⟩ (sg_RuleReader_made_0 16 2 2 ?_ ?_ (vpd (by decide)) ?_ (vpd (by decide)) ?_)
  · rw [nw_S (a1 (by decide))]; rfl
  · rw [g1, nw_S (a1 (by decide))]; rfl
  · rw [g2, nw_S (a1 (by decide))]; rfl
  rw [g1, g2, g3, g4]
  refine sp_copyOf (d := d) (x := 18) (n := (rcC 0 R).length) (by rw [nw_S (a1 (by decide))]; rfl) (a2 (by decide)) r01 (fun k => sp_min r01 k) (fun I1 f1 c1 => ?_)
  have b1 : ∀ {x : Nat} {s s' : am_Sh}, x < 213 → (am_new (am_new (gg Lx ρ) s) s').2.1 x = (gg Lx ρ).2.1 x := fun z => by rw [nw_S (a2 z), nw_S (a1 z)]
  have b2 : ∀ {x : Nat} {s s' : am_Sh}, x < 213 → (am_new (am_new (gg Lx ρ) s) s').1 x = (gg Lx ρ).1 x := fun z => by rw [nw_R (a2 z), nw_R (a1 z)]
  have a3 : ∀ {x : Nat} {s s' : am_Sh}, x < 213 → x ≠ (am_new (am_new (gg Lx ρ) s) s').2.2 := fun z => by rw [nw_n, nw_n, h2]; omega
  have k1 : (am_new (am_new (gg Lx ρ) (.inl 6)) (.inr (0, (rcC 0 R).length))).1 16 1 = 17 := by rw [b2 (by decide)]; rfl
  have k2 : (am_new (am_new (gg Lx ρ) (.inl 6)) (.inr (0, (rcC 0 R).length))).1 16 2 = 20 := by rw [b2 (by decide)]; rfl
  have k3 : (am_new (am_new (gg Lx ρ) (.inl 6)) (.inr (0, (rcC 0 R).length))).1 17 (Int32.toNatClampNeg 1) = 19 := by rw [b2 (by decide)]; rfl
  have q1 : ∀ a, a < N → I1 a = I a := fun a ha => by rw [f1 a (by rw [nw_n, h2]; omega), rn_ne (by rw [h2]; omega)]
  have k4 : I1 20 (Int32.toNatClampNeg 1) = nI (rcC 1 R).length := by rw [q1 20 (by omega)]; exact r10
  refine sg_RuleReader_made_19 2 402 16 (gg Lx ρ).2.2 (gg Lx ρ).2.2 (am_new (gg Lx ρ) (.inl 6)).2.2 2 2 ?_ ?_ (vpd (by decide)) ?_ (vpd (by decide)) (by decide) (by decide) ?_
  · rw [b1 (by decide)]; rfl
  · rw [k1, b1 (by decide)]; rfl
  · rw [k2, b1 (by decide)]; rfl
  rw [k1, k2, k3, k4]
  refine sp_copyOf (d := d) (x := 19) (n := (rcC 1 R).length) (by rw [b1 (by decide)]; rfl) (a3 (by decide)) r11 (fun k => sp_min r11 k) (fun I2 f2 c2 => ?_)
  have m2 : (am_new (am_new (gg Lx ρ) (.inl 6)) (.inr (0, (rcC 0 R).length))).2.2 = N + 2 := by rw [nw_n, nw_n, h2]
  have m1 : (am_new (gg Lx ρ) (.inl 6)).2.2 = N + 1 := by rw [nw_n, h2]
  refine sg_RuleReader_made_34 3 802 16 (gg Lx ρ).2.2 (gg Lx ρ).2.2 (am_new (gg Lx ρ) (.inl 6)).2.2 _ (by decide) (by decide) ?_ ?_
  · refine run_in (d := d + 1) rfl rfl ⟨rfl, rfl⟩ (sg_Rule_init_0 _ _ _ ?_ (sg_Rule_init_9 _ _ _ _ _ ?_ (sg_Rule_init_14 _ _ _ _ _ (Nat.le_refl _) (Nat.le_refl _) (sg_RuleReader_made_37 _ _ _ _ (by decide) (by decide) ?_))))
    · rw [nw_S (by rw [nw_n, nw_n, h2]; omega), nw_S (by rw [nw_n, h2]; omega)]; exact nw_at
    · show (am_new (am_new (am_new (gg Lx ρ) (.inl 6)) (.inr (0, (rcC 0 R).length))) (.inr (0, (rcC 1 R).length))).2.1 (gg Lx ρ).2.2 = _
      rw [nw_S (by rw [nw_n, nw_n, h2]; omega), nw_S (by rw [nw_n, h2]; omega)]; exact nw_at
    · rw [m2, m1, h2]
      refine h I2 _ (fun a ha => ?_) (fun j hj => ?_) (fun j hj => ?_)
      · rw [f2 a (by rw [m2]; omega)]; exact q1 a ha
      · rw [f2 (N + 1) (by rw [m2]; omega)]
        have := c1 j hj
        rw [m1] at this
        rw [this, rn_ne (a1 (by decide))]
      · have := c2 j hj
        rw [m2] at this
        rw [this, q1 19 (by omega)]
  · rw [nw_S (by rw [nw_n, nw_n, h2]; omega), nw_S (by rw [nw_n, h2]; omega)]; exact nw_at
theorem RCc_sn {I I' : am_I} {Rs : List (List (Nat × List Nat))} {R : List (Nat × List Nat)} (hC : RCc I ρ Rs) (hk : ∀ k, k < Rs.length → I' (214 + 3 * k) = I (214 + 3 * k) ∧ I' (215 + 3 * k) = I (215 + 3 * k)) (hn : I' 21 1 = nI (Rs.length + 1)) (l0 : (rcC 0 R).length ≤ 400) (l1 : (rcC 1 R).length ≤ 400) (s0 : segAt (I' (214 + 3 * Rs.length)) 0 (rcC 0 R)) (s1 : segAt (I' (215 + 3 * Rs.length)) 0 (rcC 1 R)) : RCc I' (ρ ++ [((rcC 0 R).length, (rcC 1 R).length)]) (Rs ++ [R]) := by
  refine ⟨by rw [List.length_append, List.length_append, hC.1]; rfl, by rw [hn, List.length_append]; rfl, fun k R' hR => ?_⟩
  by_cases z : k < Rs.length
  · rw [List.getElem?_append_left z] at hR
    obtain ⟨a1, a2, a3, a4, a5⟩ := hC.2.2 k R' hR
    refine ⟨a1, a2, by rw [List.getElem?_append_left (by rw [hC.1]; exact z)]; exact a3, ?_, ?_⟩
    · rw [(hk k z).1]; exact a4
    · rw [(hk k z).2]; exact a5
  · rw [List.getElem?_append_right (by omega)] at hR
    by_cases w : k = Rs.length
    · subst w
      rw [Nat.sub_self] at hR
      have : R = R' := Option.some.inj hR
      subst this
      refine ⟨l0, l1, ?_, s0, s1⟩
      rw [← hC.1, List.getElem?_append_right (Nat.le_refl _), Nat.sub_self]; rfl
    · have : k - Rs.length = (k - Rs.length - 1) + 1 := by omega
      rw [this] at hR
      exact absurd hR (by simp)
theorem sp_LL_rule {I : am_I} {B : Nat → Nat} {t : Nat} {Rs : List (List (Nat × List Nat))} (hT : tpC I B t) (hside : ∃ s, s ≤ 1 ∧ I 16 3 = nI s) (hC : RCc I ρ Rs) (h6 : Rs.length ≤ 6)
    (hfull : Rs.length = 6 → Q (some (.int (-1))) I L (gg Lx ρ))
    (h0 : Rs.length < 6 → ¬ (pRl B t).1 = 0 → ∀ I', (∀ a, a ≠ 13 → a ≠ 16 → a ≠ 18 → a ≠ 19 → a ≠ 20 → I' a = I a) → I' 13 1 = 0 → (∃ s, s ≤ 1 ∧ I' 16 3 = nI s) → Q (some (.int (-2 - nI (pRl B t).1))) I' L (gg Lx ρ))
    (h1 : Rs.length < 6 → (pRl B t).1 = 0 → ∀ I' L' ρ', (∀ a, a < 213 → a ≠ 13 → a ≠ 16 → a ≠ 18 → a ≠ 19 → a ≠ 20 → a ≠ 21 → I' a = I a) → I' 13 1 = 0 → (∃ s, s ≤ 1 ∧ I' 16 3 = nI s) → RCc I' ρ' (Rs ++ [(pRl B t).2]) → Q (some (.int (nI Rs.length))) I' L' (gg Lx ρ')) : am_run (d + 29) m_LL_rule [.ref 12] I L (gg Lx ρ) Q := by
  refine run_in rfl rfl ⟨rfl, rfl⟩ (sg_LL_rule_0 12 rfl rfl (fun z => ?_) (fun _ => rfl) (fun z => ?_))
  · have z : I 21 1 < 6 := z
    rw [hC.2.1] at z
    have l6 : Rs.length < 6 := (nI_ltI (b := 6) (by omega) (by decide)).mp z
    refine sp_RuleReader_read (d := d) hT hside (fun e I1 g1 e1 s1 r1 => ?_) (fun e I1 g1 e1 s1 => ?_)
    · have u3 : am_u I1 13 1 0 13 3 = 0 := by rw [am_u_nk (by decide)]; exact e1
      refine sg_LL_rule_21 0 0 12 rfl rfl (fun _ => by decide) (fun _ => by decide) (fun _ => ?_) (fun _ => rfl) (fun z => absurd u3 z) (fun _ => by decide) (fun _ => by decide)
      have r2 : rdC (am_u I1 13 1 0) (pRl B t).2 := fun k hk => by
        obtain ⟨a1, a2, a3⟩ := r1 k hk
        exact ⟨by rw [am_u_ne (by decide)]; exact a1, a2, by rw [am_u_ne (by omega)]; exact a3⟩
      refine sp_made (d := d + 25) (I := am_u I1 13 1 0) (R := (pRl B t).2) rfl r2 (fun I2 L2 f2 c0 c1 => ?_)
      have i21 : I2 21 1 = nI Rs.length := by rw [f2 21 (by omega), am_u_ne (by decide), g1.1 21 (by decide) (by decide) (by decide) (by decide) (by decide)]; exact hC.2.1
      refine sg_LL_rule_61 3 802 12 21 (213 + 3 * ρ.length) (by decide) (by decide) ?_ ?_
      · have sh : ∀ {x : Nat}, x < 213 → (am_new (am_new (am_new (gg Lx ρ) (.inl 6)) (.inr (0, (rcC 0 (pRl B t).2).length))) (.inr (0, (rcC 1 (pRl B t).2).length))).2.1 x = (gg Lx ρ).2.1 x := fun {x} z => by
          rw [nw_S (show x ≠ 213 + 3 * ρ.length + 1 + 1 by omega), nw_S (show x ≠ 213 + 3 * ρ.length + 1 by omega), nw_S (show x ≠ 213 + 3 * ρ.length by omega)]
        have rf : am_u (am_u (am_new (am_new (am_new (gg Lx ρ) (.inl 6)) (.inr (0, (rcC 0 (pRl B t).2).length))) (.inr (0, (rcC 1 (pRl B t).2).length))).1 (213 + 3 * ρ.length) 0 (213 + 3 * ρ.length + 1)) (213 + 3 * ρ.length) 1 (213 + 3 * ρ.length + 2) 21 0 = 22 := by
          rw [am_u_ne (by omega), am_u_ne (by omega), nw_R (show 21 ≠ 213 + 3 * ρ.length + 1 + 1 by omega), nw_R (show 21 ≠ 213 + 3 * ρ.length + 1 by omega), nw_R (show 21 ≠ 213 + 3 * ρ.length by omega)]; rfl
        refine run_in (d := d + 27) rfl rfl ⟨rfl, rfl⟩ (sg_Laws_add_0 21 (213 + 3 * ρ.length) 6 ?_ (fun _ => ?_) (fun _ => ?_) (fun _ => ?_) (fun _ => ?_) (fun k => ?_))
        · exact (sh (by decide)).trans rfl
        · dsimp only
          rw [rf]; exact (sh (by decide)).trans rfl
        · show (am_new (am_new (am_new (gg Lx ρ) (.inl 6)) _) _).2.1 (213 + 3 * ρ.length) = _
          rw [nw_S (show 213 + 3 * ρ.length ≠ 213 + 3 * ρ.length + 1 + 1 by omega), nw_S (show 213 + 3 * ρ.length ≠ 213 + 3 * ρ.length + 1 by omega)]; exact nw_at
        · rw [i21]; exact vp_in_nI (by omega) (by decide)
        · dsimp only
          rw [rf, i21, nI_clamp (by omega), ← hC.1, gg_grow rfl]
          refine sg_Laws_add_21 0 0 21 _ rfl ?_ (Nat.le_refl _) (Nat.le_refl _)
          refine sg_LL_rule_64 _ _ _ _ ?_ (by decide) (by decide)
          rw [am_u_at, i21, nI_1, nI_pred]
          refine h1 l6 e _ _ _ (fun a z z1 z2 z3 z4 z5 z6 => ?_) ?_ ?_ (RCc_sn hC (fun k hk => ⟨?_, ?_⟩) ?_ ?_ ?_ ?_ ?_)
          · rw [am_u_ne z6, f2 a (by omega), am_u_ne z1, g1.1 a z1 z2 z3 z4 z5]
          · rw [am_u_ne (by decide), f2 13 (by omega), am_u_at]
          · obtain ⟨s, hs, hs1⟩ := s1
            exact ⟨s, hs, by rw [am_u_ne (by decide), f2 16 (by omega), am_u_ne (by decide)]; exact hs1⟩
          · have := hC.1
            rw [am_u_ne (by omega), f2 _ (by omega), am_u_ne (by omega), g1.1 _ (by omega) (by omega) (by omega) (by omega) (by omega)]
          · have := hC.1
            rw [am_u_ne (by omega), f2 _ (by omega), am_u_ne (by omega), g1.1 _ (by omega) (by omega) (by omega) (by omega) (by omega)]
          · rw [am_u_at]
          · have := (r2 0 (by decide)).2.1; omega
          · have := (r2 1 (by decide)).2.1; omega
          · rw [am_u_ne (by omega), ← hC.1, show 214 + 3 * ρ.length = 213 + 3 * ρ.length + 1 by omega]
            exact segAt_congr (fun i _ hi => c0 i (by omega)) (r2 0 (by decide)).2.2
          · rw [am_u_ne (by omega), ← hC.1, show 215 + 3 * ρ.length = 213 + 3 * ρ.length + 2 by omega]
            exact segAt_congr (fun i _ hi => c1 i (by omega)) (r2 1 (by decide)).2.2
        · rw [i21] at k; exact absurd (nI_lt (b := 6) l6 (by decide)) k
      · show (am_new (am_new (am_new (gg Lx ρ) (.inl 6)) _) _).2.1 21 = _
        rw [nw_S (show 21 ≠ 213 + 3 * ρ.length + 1 + 1 by omega), nw_S (show 21 ≠ 213 + 3 * ρ.length + 1 by omega), nw_S (show 21 ≠ 213 + 3 * ρ.length by omega)]; rfl
    · have hlt : (pRl B t).1 < 4000 := (pRl_g (fun i hi => (hT.2.2 i hi).2) hT.2.1).1
      have u3 : am_u I1 13 1 0 13 3 = nI (pRl B t).1 := by rw [am_u_nk (by decide)]; exact e1
      have u0 : ¬ am_u I1 13 1 0 13 3 = 0 := fun q => e ((nI_eq (b := 0) (by omega) (by decide)).mp (u3.symm.trans q))
      refine sg_LL_rule_21 0 0 12 rfl rfl (fun z => absurd z u0) (fun z => absurd z u0) (fun z => absurd z u0) (fun z => absurd z u0) (fun _ => ?_) (fun _ => by decide) (fun _ => by decide)
      show Q (some (.int (-2 - am_u I1 13 1 0 13 3))) (am_u I1 13 1 0) L (gg Lx ρ)
      rw [u3]
      refine h0 l6 e _ (fun a z1 z2 z3 z4 z5 => by rw [am_u_ne z1, g1.1 a z1 z2 z3 z4 z5]) am_u_at ?_
      obtain ⟨s, hs, hs1⟩ := s1
      exact ⟨s, hs, by rw [am_u_ne (by decide)]; exact hs1⟩
  · have z : ¬ I 21 1 < 6 := z
    rw [hC.2.1] at z
    exact hfull (Decidable.byContradiction fun q => z (nI_lt (b := 6) (by omega) (by decide)))
end MAD
