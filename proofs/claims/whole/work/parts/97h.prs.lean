/-! ===== both sides' calls of the tape, the net, the rules and the images ===== -/
section PRT
variable {Lx : Nat} {ρ : List (Nat × Nat)} {Rs : List (List (Nat × List Nat))} {I : am_I} {L : am_L} {B : Nat → Nat} {t P n C m : Nat}
theorem fdB_b (a b c e g : Int32) (j : Nat) : ∃ q, q < 256 ∧ fdB a b c e g j = nI q := by
  unfold fdB byC
  split
  · exact i32_and255 _
  · split
    · exact i32_and255 _
    · split
      · exact i32_and255 _
      · split
        · exact i32_and255 _
        · exact i32_and255 _
theorem fdB_n (a b c e g : Int32) (j : Nat) : fdB a b c e g j = nI (fdB a b c e g j).toNatClampNeg ∧ (fdB a b c e g j).toNatClampNeg < 256 := by
  obtain ⟨q, hq, e⟩ := fdB_b a b c e g j
  rw [e, nI_clamp (by omega)]
  exact ⟨rfl, hq⟩
def fdT (B : Nat → Nat) (t : Nat) (a b c e g : Int32) : Nat → Nat := fun i => if i < t then B i else (fdB a b c e g (i - t)).toNatClampNeg
theorem pr_feed {a b c e g : Int32} (hJ : JJ I ρ Rs B t P n C m) : PR Lx 90 123 [.int a, .int b, .int c, .int e, .int g] I L ρ := by
  obtain ⟨⟨hT, hR, hI⟩, hS, hw⟩ := hJ
  by_cases z : t + 20 ≤ 400
  · intro K1 h
    refine sp_LL_feed (d := 38) z hT.1.1 (fun I1 f1 e1 o1 n1 => h _ I1 L ρ (f1 1 (by decide)) (fun K2 h2 => ?_))
    have u1 : I1 186 = I 186 := f1 186 (by decide)
    have u2 : I1 187 = I 187 := f1 187 (by decide)
    refine sp_Model_feed (d := 38) z (by rw [u1]; exact hT.2.1) (fun I2 f2 e2 o2 n2 => h2 I2 L ρ ⟨?_, Rs, fdT B t a b c e g, t + 20, P, n, C, m, ⟨⟨⟨?_, z, fun i hi => ?_⟩, ⟨e2, z, fun i hi => ?_⟩⟩, hR.fr (fun x hx => ?_) ?_, imgs_fr (fun x h1 h2 => ?_) ?_ ?_ hI⟩, ?_, ?_⟩)
    · rw [f2.1 1 (by decide) (by decide), f1 1 (by decide)]
    · rw [f2.1 13 (by decide) (by decide)]; exact e1
    · rw [f2.1 14 (by decide) (by decide)]
      unfold fdT
      by_cases y : i < t
      · rw [if_pos y, o1 i y]; exact hT.1.2.2 i y
      · rw [if_neg y]
        have k := n1 (i - t) (by omega)
        rw [show t + (i - t) = i by omega] at k
        rw [k]; exact fdB_n a b c e g (i - t)
    · unfold fdT
      by_cases y : i < t
      · rw [if_pos y, o2 i y, u2]; exact hT.2.2.2 i y
      · rw [if_neg y]
        have k := n2 (i - t) (by omega)
        rw [show t + (i - t) = i by omega] at k
        have q := fdB_n a b c e g (i - t)
        refine ⟨?_, q.2⟩
        rw [k]
        show _ = (nI _).toInt8.toInt32
        rw [← q.1]
    · rw [f2.1 x (by omega) (by simp; omega), f1 x (by simp; omega)]
    · rw [f2.2 2 (by decide), u1]
    · rw [f2.1 x (by omega) (by simp; omega), f1 x (by simp; omega)]
    · rw [f2.1 211 (by decide) (by decide), f1 211 (by decide)]
    · rw [f2.1 212 (by decide) (by decide), f1 212 (by decide)]
    · rw [f2.1 198 (by decide) (by decide), f1 198 (by decide)]
      exact stS_fr (fun x h1 h2 => by rw [f2.1 x (by omega) (by simp; omega), f1 x (by simp; omega)]) hS
    · rw [f2.1 198 (by decide) (by decide), f1 198 (by decide)]; exact hw
  · have z : 400 < t + 20 := by omega
    exact pr_same (v := -1) ⟨⟨hT, hR, hI⟩, hS, hw⟩ (fun K1 h => sp_LL_feed0 (d := 39) z hT.1.2.1 hT.1.1 h) (fun K2 h => sp_Model_feed0 (d := 39) z hT.2.2.1 hT.2.1 h)
theorem pr_end {a : Int32} (hJ : JJ I ρ Rs B t P n C m) : PR Lx 91 124 [.int a] I L ρ := by
  obtain ⟨⟨hT, hR, hI⟩, hS, hw⟩ := hJ
  have e6 : I 186 1 = I 13 1 := hT.2.1.trans hT.1.1.symm
  intro K1 h
  refine sp_LL_end (d := 39) (fun z1 z2 => h _ _ L ρ (by rw [am_u_ne (by decide)]) (fun K2 h2 => ?_)) (fun z => h _ I L ρ rfl (fun K2 h2 => ?_))
  · obtain ⟨j, hj, ej⟩ := nI_of z1
    subst ej
    have e7 : am_u I 13 1 (nI j) 186 1 = I 13 1 := by rw [am_u_ne (by decide)]; exact e6
    have ht4 := hT.1.2.1
    have hle : j ≤ t := Nat.le_of_not_lt fun q => z2 (by rw [hT.1.1]; exact nI_lt q (by omega))
    refine sp_Model_end (d := 39) (fun _ _ => h2 _ L ρ ⟨?_, Rs, B, j, P, n, C, m, ⟨⟨⟨?_, by omega, fun i hi => ?_⟩, ⟨?_, by omega, fun i hi => ?_⟩⟩, hR.fr (fun x hx => ?_) ?_, imgs_fr (fun x h1 h2 => ?_) ?_ ?_ hI⟩, ?_, ?_⟩) (fun z => ?_)
    · rw [am_u_ne (by decide), am_u_ne (by decide)]
    · rw [am_u_ne (by decide), am_u_at]
    · rw [am_u_ne (by decide), am_u_ne (by decide)]; exact hT.1.2.2 i (by omega)
    · rw [am_u_at]
    · rw [am_u_ne (by decide), am_u_ne (by decide)]; exact hT.2.2.2 i (by omega)
    · rw [am_u_ne (by omega), am_u_ne (by omega)]
    · rw [am_u_nk (by decide), am_u_ne (by decide)]
    · rw [am_u_ne (by omega), am_u_ne (by omega)]
    · rw [am_u_ne (by decide), am_u_ne (by decide)]
    · rw [am_u_ne (by decide), am_u_ne (by decide)]
    · rw [am_u_ne (by decide), am_u_ne (by decide)]
      exact stS_fr (fun x h1 h2 => by rw [am_u_ne (by omega), am_u_ne (by omega)]) hS
    · rw [am_u_ne (by decide), am_u_ne (by decide)]; exact hw
    · rw [e7] at z
      exact z.elim (fun q => absurd q z1) (fun q => absurd q z2)
  · refine sp_Model_end (d := 39) (fun z1 z2 => ?_) (fun _ => h2 I L ρ ⟨rfl, Rs, B, t, P, n, C, m, ⟨hT, hR, hI⟩, hS, hw⟩)
    rw [e6] at z2
    exact z.elim (fun q => absurd q z1) (fun q => absurd q z2)
theorem pr_net (hJ : JJ I ρ Rs B t P n C m) : PR Lx 92 156 [] I L ρ := by
  obtain ⟨⟨hT, hR, hI⟩, hS, hw⟩ := hJ
  intro K1 h
  have k0 : ∀ {I1 : am_I}, frW I I1 → tpM I1 B t ∧ I1 198 = I 198 ∧ I1 1 = I 1 := fun f1 => by
    refine ⟨⟨?_, hT.2.2.1, ?_⟩, f1 198 (by omega) (by omega), f1 1 (by omega) (by omega)⟩
    · rw [f1 186 (by omega) (by omega)]; exact hT.2.1
    · rw [f1 187 (by omega) (by omega)]; exact hT.2.2.2
  have kR : ∀ {I1 I2 : am_I}, frW I I1 → frm [189, 192, 193, 194, 198] nF I1 I2 → RR I2 ρ Rs ∧ imgs I2 Rs ∧ I2 1 = I 1 := fun {I1 I2} f1 f2 => by
    have q : ∀ a, a ≠ 186 → a ≠ 13 → ¬ (94 ≤ a ∧ a ≤ 123) → ¬ (a = 189 ∨ a = 192 ∨ a = 193 ∨ a = 194 ∨ a = 198) → I2 a = I a := fun a z1 z2 z3 z4 => (f2.1 a z1 (by simp; omega)).trans (f1 a z2 z3)
    refine ⟨hR.fr (fun x hx => q x (by omega) (by omega) (by omega) (by omega)) ?_, imgs_fr (fun x h1 h2 => q x (by omega) (by omega) (by omega) (by omega)) (q 211 (by omega) (by omega) (by omega) (by omega)) (q 212 (by omega) (by omega) (by omega) (by omega)) hI, q 1 (by omega) (by omega) (by omega) (by omega)⟩
    rw [f2.2 2 (by decide), f1 186 (by omega) (by omega)]
  refine sp_LL_net (d := 32) hT.1 hS (fun z I1 f1 e94 e95 e1 => h _ I1 L ρ (k0 f1).2.2 (fun K2 h2 => ?_)) (fun z I1 f1 e1 s1 => h _ I1 L ρ (k0 f1).2.2 (fun K2 h2 => ?_))
  · obtain ⟨t1, e8, _⟩ := k0 f1
    refine sp_Model_net (d := 32) t1 (fun z' I2 f2 e2 => ?_) (fun z' => absurd (by rw [e8] at z'; exact z') z)
    rw [e8]
    obtain ⟨r2, i2, x2⟩ := kR f1 (frm.w f2 (by decide) (by decide))
    refine h2 I2 L ρ ⟨x2, Rs, B, 0, P, n, C, m, ⟨tps.z ?_ e2, r2, i2⟩, ?_, ?_⟩
    · rw [f2.1 13 (by decide) (by decide)]; exact e1
    · rw [f2.1 198 (by decide) (by decide), e8]
      refine stS_fr (fun a z1 z2 => ?_) hS
      rw [f2.1 a (by omega) (by simp; omega)]
      by_cases y : a = 94
      · subst y; exact e94
      · exact e95 a (by omega) (by omega)
    · rw [f2.1 198 (by decide) (by decide), e8]; exact hw
  · obtain ⟨t1, e8, _⟩ := k0 f1
    refine sp_Model_net (d := 32) t1 (fun z' => absurd (by rw [e8]; exact z) z') (fun z' I2 f2 e2 s2 => ?_)
    rw [e8] at s2 ⊢
    obtain ⟨r2, i2, x2⟩ := kR f1 f2
    obtain ⟨c', hc'⟩ := nsW_tL (f := I 198) (fun i hi => (hT.1.2.2 i hi).2) hT.1.2.1 41 0 0 _ (Nat.zero_le _) nsW_0 z
    have w1 : wfS Rs (fin (pNt (I 198) B t).2) (pNt (I 198) B t).2.P (pNt (I 198) B t).2.n (pNt (I 198) B t).2.C (pNt (I 198) B t).2.m := wfS_fin hc' hw.x hw.fo
    refine h2 I2 L ρ ⟨x2, Rs, B, 0, (pNt (I 198) B t).2.P, (pNt (I 198) B t).2.n, (pNt (I 198) B t).2.C, (pNt (I 198) B t).2.m, ⟨tps.z ?_ e2, r2, i2⟩, ?_, wfS_cg s2 w1⟩
    · rw [f2.1 13 (by decide) (by decide)]; exact e1
    · exact stS_cg w1.n.2.1 w1.C.2 w1.m.2 s2 (stS_fr (fun a z1 z2 => f2.1 a (by omega) (by simp; omega)) (stS_fin s1))
theorem get_sn {R : List (Nat × List Nat)} : ∀ (k : Nat) (R' : List (Nat × List Nat)), Rs[k]? = some R' → (Rs ++ [R])[k]? = some R' := fun k R' h => by
  have z : k < Rs.length := by
    apply Decidable.byContradiction
    intro q
    rw [List.getElem?_eq_none (by omega)] at h
    exact absurd h (by simp)
  rw [List.getElem?_append_left z]; exact h
theorem pr_rule (hJ : JJ I ρ Rs B t P n C m) : PR Lx 93 155 [] I L ρ := by
  obtain ⟨⟨hT, hR, hI⟩, hS, hw⟩ := hJ
  obtain ⟨hC, hM, hW, hside⟩ := hR
  have hg := pRl_g (fun i hi => (hT.1.2.2 i hi).2) hT.1.2.1
  intro K1 h
  refine sp_LL_rule (d := 11) hT.1 hside hC hW.1 (fun z => h _ I L ρ rfl (fun K2 h2 => ?_)) (fun z6 z I1 f1 e1 s1 => h _ I1 L ρ (f1 1 (by decide) (by decide) (by decide) (by decide) (by decide)) (fun K2 h2 => ?_)) (fun z6 z I1 L1 ρ1 f1 e1 s1 c1 => h _ I1 L1 ρ1 (f1 1 (by decide) (by decide) (by decide) (by decide) (by decide) (by decide) (by decide)) (fun K2 h2 => ?_))
  · exact sp_Model_rule (d := 27) hT.2 hM.1 hW.1 (fun _ => h2 I L ρ ⟨rfl, Rs, B, t, P, n, C, m, ⟨hT, ⟨hC, hM, hW, hside⟩, hI⟩, hS, hw⟩) (fun q => absurd q (by omega)) (fun q => absurd q (by omega))
  · have g1 : ∀ a, 21 ≤ a → I1 a = I a := fun a ha => f1 a (by omega) (by omega) (by omega) (by omega) (by omega)
    have t1 : tpM I1 B t := ⟨by rw [g1 186 (by omega)]; exact hT.2.1, hT.2.2.1, by rw [g1 187 (by omega)]; exact hT.2.2.2⟩
    have m1 : RCm I1 Rs := RCm_fr (by rw [g1 186 (by omega)]) (g1 188 (by omega)) (g1 190 (by omega)) (g1 191 (by omega)) hM
    refine sp_Model_rule (d := 27) t1 m1.1 hW.1 (fun q => absurd q (by omega)) (fun _ _ I2 f2 e22 e21 => ?_) (fun _ q => absurd q z)
    have q : ∀ a, a ≠ 186 → ¬ (188 ≤ a ∧ a ≤ 195) → I2 a = I1 a := fun a z1 z2 => f2.1.1 a z1 (by simp; omega)
    refine h2 I2 L ρ ⟨?_, Rs, B, 0, P, n, C, m, ⟨tps.z ?_ e21, ⟨RCc_fr ?_ (fun a ha => ?_) hC, RCm_Y m1 f2 e22, hW, ?_⟩, imgs_fr (fun a h1 h2 => ?_) ?_ ?_ hI⟩, ?_, ?_⟩
    · rw [q 1 (by omega) (by omega)]; exact f1 1 (by decide) (by decide) (by decide) (by decide) (by decide)
    · rw [q 13 (by omega) (by omega)]; exact e1
    · rw [q 21 (by omega) (by omega), g1 21 (by omega)]
    · rw [q a (by omega) (by omega), g1 a (by omega)]
    · obtain ⟨s, hs, es⟩ := s1
      exact ⟨s, hs, by rw [q 16 (by omega) (by omega)]; exact es⟩
    · rw [q a (by omega) (by omega), g1 a (by omega)]
    · rw [q 211 (by omega) (by omega), g1 211 (by omega)]
    · rw [q 212 (by omega) (by omega), g1 212 (by omega)]
    · rw [q 198 (by omega) (by omega), g1 198 (by omega)]
      exact stS_fr (fun a h1 h2 => by rw [q a (by omega) (by omega), g1 a (by omega)]) hS
    · rw [q 198 (by omega) (by omega), g1 198 (by omega)]; exact hw
  · have g1 : ∀ a, 22 ≤ a → a < 213 → I1 a = I a := fun a ha hb => f1 a hb (by omega) (by omega) (by omega) (by omega) (by omega) (by omega)
    have t1 : tpM I1 B t := ⟨by rw [g1 186 (by omega) (by omega)]; exact hT.2.1, hT.2.2.1, by rw [g1 187 (by omega) (by omega)]; exact hT.2.2.2⟩
    have m1 : RCm I1 Rs := RCm_fr (by rw [g1 186 (by omega) (by omega)]) (g1 188 (by omega) (by omega)) (g1 190 (by omega) (by omega)) (g1 191 (by omega) (by omega)) hM
    refine sp_Model_rule (d := 27) t1 m1.1 hW.1 (fun q => absurd q (by omega)) (fun _ q => absurd z q) (fun _ _ I2 f2 e22 e21 e191 c2 => ?_)
    have q : ∀ a, a ≠ 186 → ¬ (188 ≤ a ∧ a ≤ 195) → I2 a = I1 a := fun a z1 z2 => f2.1.1 a z1 (by simp; omega)
    obtain ⟨gl, gw⟩ := hg.2 z
    refine h2 I2 L1 ρ1 ⟨?_, Rs ++ [(pRl B t).2], B, 0, P, n, C, m, ⟨tps.z ?_ e21, ⟨RCc_fr ?_ (fun a ha => ?_) c1, RCm_sn m1 f2 e22 e191 gl c2, wfRs_sn hW z6 gw, ?_⟩, imgs_add get_sn (imgs_fr (fun a h1 h2 => ?_) ?_ ?_ hI)⟩, ?_, wfS_add get_sn ?_⟩
    · rw [q 1 (by omega) (by omega)]; exact f1 1 (by decide) (by decide) (by decide) (by decide) (by decide) (by decide) (by decide)
    · rw [q 13 (by omega) (by omega)]; exact e1
    · rw [q 21 (by omega) (by omega)]
    · rw [q a (by omega) (by omega)]
    · obtain ⟨s, hs, es⟩ := s1
      exact ⟨s, hs, by rw [q 16 (by omega) (by omega)]; exact es⟩
    · rw [q a (by omega) (by omega), g1 a (by omega) (by omega)]
    · rw [q 211 (by omega) (by omega), g1 211 (by omega) (by omega)]
    · rw [q 212 (by omega) (by omega), g1 212 (by omega) (by omega)]
    · rw [q 198 (by omega) (by omega), g1 198 (by omega) (by omega)]
      exact stS_fr (fun a h1 h2 => by rw [q a (by omega) (by omega), g1 a (by omega) (by omega)]) hS
    · rw [q 198 (by omega) (by omega), g1 198 (by omega) (by omega)]; exact hw
theorem vN4 {w : Int32} (h : vN 4 w) : ∃ k, k < 4 ∧ w = nI k := by
  obtain ⟨j, hj, e⟩ := nI_of h.1
  subst e
  exact ⟨j, (nI_ltI hj (by decide)).mp h.2, rfl⟩
theorem pr_image {a : Int32} (hJ : JJ I ρ Rs B t P n C m) : PR Lx 115 219 [.int a] I L ρ := by
  by_cases hv : vN 4 a
  · obtain ⟨⟨hT, hR, hI⟩, hS, hw⟩ := hJ
    obtain ⟨k, hk, e⟩ := vN4 hv
    subst e
    intro K1 h
    refine sp_LL_image (d := 36) hk hS hw.n.2.1 hw.C.2 hw.m.2 (fun I1 f1 e1 s1 => h _ I1 L ρ (f1 1 (by omega) (by omega)) (fun K2 h2 => ?_))
    have e8 : I1 198 = I 198 := f1 198 (by omega) (by omega)
    have e12 : I1 212 = I 212 := f1 212 (by omega) (by omega)
    have e11 : I1 211 = I 211 := f1 211 (by omega) (by omega)
    refine sp_Model_image (d := 38) hk (fun I2 f2 e2 o2 n2 => ?_)
    rw [e8]
    have q : ∀ x, ¬ (125 ≤ x ∧ x ≤ 185) → x ≠ 211 → x ≠ 212 → I2 x = I x := fun x z1 z2 z3 => (f2 x z2 z3).trans (f1 x (by omega) (by omega))
    refine h2 I2 L ρ ⟨q 1 (by omega) (by omega) (by omega), Rs, B, t, P, n, C, m, ⟨hT.fr ?_ ?_ ?_ ?_, hR.fr (fun x hx => ?_) ?_, fun k' hk' => ?_⟩, ?_, ?_⟩
    · rw [q 13 (by omega) (by omega) (by omega)]
    · rw [q 14 (by omega) (by omega) (by omega)]
    · rw [q 186 (by omega) (by omega) (by omega)]
    · rw [q 187 (by omega) (by omega) (by omega)]
    · exact q x (by omega) (by omega) (by omega)
    · rw [q 186 (by omega) (by omega) (by omega)]
    · have e5 : I2 125 = up1 (I 125) k 1 := (f2 125 (by omega) (by omega)).trans e1
      have e6 : I2 212 = up1 (I 212) k 1 := by rw [e2, e12]
      rw [e5, e6]
      by_cases y : k' = k
      · subst y
        rw [up1_at, up1_at]
        refine ⟨Iff.rfl, fun _ => ⟨P, n, C, m, ?_, ?_⟩⟩
        · exact stS_cg (f := I 198) hw.n.2.1 hw.C.2 hw.m.2 (fun i hi => by show I2 211 (152 * k' + i) = _; rw [o2 i hi, e8]) (stS_fr (fun x h1 h2 => f2 x (by omega) (by omega)) s1)
        · exact wfS_cg (f := I 198) (fun i hi => by show I2 211 (152 * k' + i) = _; rw [o2 i hi, e8]) hw
      · rw [up1_ne y, up1_ne y]
        obtain ⟨i1, i2⟩ := hI k' hk'
        refine ⟨i1, fun z => ?_⟩
        obtain ⟨P', n', C', m', s', w'⟩ := i2 z
        have eq : ∀ i, i < 152 → I2 211 (152 * k' + i) = I 211 (152 * k' + i) := fun i hi => by rw [n2 _ (by omega), e11]
        refine ⟨P', n', C', m', ?_, wfS_cg eq w'⟩
        refine stS_cg w'.n.2.1 w'.C.2 w'.m.2 eq (stS_fr (fun x h1 h2 => ?_) s')
        rw [f2 x (by omega) (by omega), f1 x (by omega) (by omega)]
    · rw [q 198 (by omega) (by omega) (by omega)]
      exact stS_fr (fun x h1 h2 => q x (by omega) (by omega) (by omega)) hS
    · rw [q 198 (by omega) (by omega) (by omega)]; exact hw
  · exact pr_same (v := -1) hJ (fun K1 h => sp_LL_image0 (d := 39) hv h) (fun K2 h => sp_Model_image0 (d := 38) hv h)
theorem pr_back {a : Int32} (hJ : JJ I ρ Rs B t P n C m) : PR Lx 116 220 [.int a] I L ρ := by
  by_cases hv : vN 4 a
  · obtain ⟨k, hk, e⟩ := vN4 hv
    subst e
    have ek : (nI k).toNatClampNeg = k := nI_clamp (by omega)
    obtain ⟨i1, i2⟩ := hJ.1.2.2 k hk
    by_cases y : I 125 k = 0
    · exact pr_same (v := -1) hJ (fun K1 h => sp_LL_back0 (d := 39) (Or.inr (by rw [ek]; exact y)) h) (fun K2 h => sp_Model_back0 (d := 38) (Or.inr (by rw [ek]; exact i1.mp y)) h)
    · obtain ⟨⟨hT, hR, hI⟩, hS, hw⟩ := hJ
      obtain ⟨P', n', C', m', s', w'⟩ := i2 y
      intro K1 h
      refine sp_LL_back (d := 36) hk y s' w'.n.2.1 w'.C.2 w'.m.2 (fun I1 f1 s1 => h _ I1 L ρ (f1 1 (by omega)) (fun K2 h2 => ?_))
      have e12 : I1 212 = I 212 := f1 212 (by omega)
      have e11 : I1 211 = I 211 := f1 211 (by omega)
      refine sp_Model_back (d := 38) hk (by rw [e12]; exact fun z => y (i1.mpr z)) (fun I2 f2 o2 => ?_)
      rw [e11] at o2 ⊢
      have q : ∀ x, ¬ (94 ≤ x ∧ x ≤ 108) → x ≠ 198 → I2 x = I x := fun x z1 z2 => (f2 x z2).trans (f1 x z1)
      refine h2 I2 L ρ ⟨q 1 (by omega) (by omega), Rs, B, t, P', n', C', m', ⟨hT.fr ?_ ?_ ?_ ?_, hR.fr (fun x hx => ?_) ?_, imgs_fr (fun x h1 h2 => ?_) ?_ ?_ hI⟩, ?_, ?_⟩
      · rw [q 13 (by omega) (by omega)]
      · rw [q 14 (by omega) (by omega)]
      · rw [q 186 (by omega) (by omega)]
      · rw [q 187 (by omega) (by omega)]
      · exact q x (by omega) (by omega)
      · rw [q 186 (by omega) (by omega)]
      · exact q x (by omega) (by omega)
      · exact q 211 (by omega) (by omega)
      · exact q 212 (by omega) (by omega)
      · exact stS_cg w'.n.2.1 w'.C.2 w'.m.2 o2 (stS_fr (fun x h1 h2 => f2 x (by omega)) s1)
      · exact wfS_cg (f := fun i => I 211 (152 * k + i)) o2 w'
  · exact pr_same (v := -1) hJ (fun K1 h => sp_LL_back0 (d := 39) (Or.inl hv) h) (fun K2 h => sp_Model_back0 (d := 38) (Or.inl hv) h)
end PRT
