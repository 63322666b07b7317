/-! ===== net: the class ===== -/
def g0 (f : Nat → Int32) : Nat → Int32 := fun i => if i = 0 ∨ i = 4 then 0 else if 136 ≤ i then -1 else f i
def pNt (f : Nat → Int32) (B : Nat → Nat) (t : Nat) : Nat × NS := ntL B t 41 0 0 (0, 0, 0, 0, g0 f)
def frW (I I' : am_I) : Prop := ∀ a, a ≠ 13 → ¬ (94 ≤ a ∧ a ≤ 123) → I' a = I a
theorem pk_m {B : Nat → Nat} {t p : Nat} (h : ¬ pk B t p = -1) : sk B t p < t := Decidable.byContradiction fun z => h (if_neg z)
section NPE
variable {d Lx : Nat} {ρ : List (Nat × Nat)} {Q : am_Q}
theorem sp_goesOn {I : am_I} {L : am_L} {B : Nat → Nat} {t p e : Nat} (hT : tpC I B t) (he : I 13 3 = nI e) (he2 : e < 4000) (hc : e = 0 → p ≤ t ∧ cur I p 0)
    (h0 : ¬ e = 0 → Q (some (.int 0)) I L (gg Lx ρ))
    (h1 : e = 0 → pk B t p = -1 → ∀ I', fr13 I I' → I' 13 3 = 0 → Q (some (.int 0)) I' L (gg Lx ρ))
    (h2 : e = 0 → ¬ pk B t p = -1 → pk B t p = 59 → ∀ I', fr13 I I' → cur I' (sk B t p + 1) 0 → Q (some (.int 1)) I' L (gg Lx ρ))
    (h3 : e = 0 → ¬ pk B t p = -1 → ¬ pk B t p = 59 → ∀ I', fr13 I I' → I' 13 3 = nI (1 + 8 * sk B t p) → Q (some (.int 0)) I' L (gg Lx ρ)) : am_run (d + 2) m_Tape_goesOn [.ref 13] I L (gg Lx ρ) Q := by
  refine run_in rfl rfl ⟨rfl, rfl⟩ (sy_Tape_goesOn_0 (fun z => ?_) (fun z => ?_))
  · rw [he] at z
    have z : e = 0 := (nI_eq (b := 0) (by omega) (by decide)).mp z
    obtain ⟨hp, hc⟩ := hc z
    refine sp_peek hT hp hc (fun I1 f1 c1 => ?_)
    refine sy_Tape_goesOn_13 _ _ (fun y1 y2 => ?_) (fun y1 y2 => ?_) (fun y => ?_)
    · refine h2 z y1 y2 _ (f1.u2) ⟨?_, ?_⟩
      · rw [am_u_at, c1.1, nI_1]
      · rw [am_u_nk (by decide)]; exact c1.2
    · have g := cFail_n (q := sk B t p) (w := 0) (by decide) c1
      rw [c1.1]
      exact h3 z y1 y2 _ (f1.tr g.1) g.2.2
    · exact h1 z y I1 f1 c1.2
  · rw [he] at z
    exact h0 (fun q => z (by rw [q]; rfl))
theorem lp_nread {L : am_L} {B : Nat → Nat} {t : Nat} : ∀ F c p I s, c + F = 41 → c ≤ 40 → tpC I B t → p ≤ t → cur I p 0 → nsC I s →
    (∀ I', frK I I' → I' 13 3 = nI (ntL B t F c p s).1 → ((ntL B t F c p s).1 = 0 → nsC I' (ntL B t F c p s).2) → Q none I' L (gg Lx ρ)) →
    am_W am_all (am_run (d + 6)) e_NetReader_read Q 9 [.ref 15, .ref 109, .int (nI c)] [] I L (gg Lx ρ) 0 0 := by
  intro F
  induction F with
  | zero => intro c p I s h1 h2; omega
  | succ F ih =>
    intro c p I s h1 h2 hT hp hc hs h
    have hst : (109 : Nat) ∈ stl := by decide
    have hB := fun i hi => (hT.2.2 i hi).2
    have ht := hT.2.1
    have hle := ncl_le (c := c) (s := s) hB ht hp
    refine sy_NetReader_read_9 (d := d + 5) 109 _ hst (fun z => absurd (nI_lt (b := 400) (by omega) (by decide)) z) (fun _ => ?_)
    refine sp_readClause (d := d) hT hp hc hs (by omega) (fun I1 k1 e1 o1 => ?_)
    refine sy_NetReader_read_22 (d := d + 5) 109 _ hst ?_
    have hT1 := k1.T hT
    refine sp_goesOn (d := d + 4) (p := (ncl B t c p s).2.1) hT1 e1 hle.2 (fun z => ⟨hle.1, (o1 z).1, by rw [e1, z]⟩) (fun z => ?_) (fun z y I2 f2 c2 => ?_) (fun z y y2 I2 f2 c2 => ?_) (fun z y y2 I2 f2 c2 => ?_)
    · refine sy_NetReader_read_29 (d := d + 5) 109 _ _ hst (fun q => absurd rfl q) (fun _ => ?_)
      have e : ntL B t (F + 1) c p s = ((ncl B t c p s).1, s) := by rw [ntL, if_pos z]
      rw [e] at h
      exact h I1 k1 e1 (fun q => absurd q z)
    · refine sy_NetReader_read_29 (d := d + 5) 109 _ _ hst (fun q => absurd rfl q) (fun _ => ?_)
      have e : ntL B t (F + 1) c p s = (0, (ncl B t c p s).2.2) := by rw [ntL, if_neg (fun q => q z), if_pos y]
      rw [e] at h
      exact h I2 (k1.tr (frK.o3 f2)) c2 (fun _ => nsC_13 f2 (o1 z).2)
    · refine sy_NetReader_read_29 (d := d + 5) 109 _ _ hst (fun _ => ?_) (fun q => absurd q (by decide))
      have e : ntL B t (F + 1) c p s = ntL B t F (c + 1) (sk B t (ncl B t c p s).2.1 + 1) (ncl B t c p s).2.2 := by rw [ntL, if_neg (fun q => q z), if_neg y, if_pos y2]
      rw [e] at h
      rw [nI_1]
      have h40 := ncl_40 z
      have := pk_m y
      exact ih (c + 1) _ I2 _ (by omega) (by omega) (tpC_fr f2 hT1) (by omega) c2 (nsC_13 f2 (o1 z).2) (fun I3 k3 => h I3 ((k1.tr (frK.o3 f2)).tr k3))
    · refine sy_NetReader_read_29 (d := d + 5) 109 _ _ hst (fun q => absurd rfl q) (fun _ => ?_)
      have e : ntL B t (F + 1) c p s = (1 + 8 * sk B t (ncl B t c p s).2.1, s) := by rw [ntL, if_neg (fun q => q z), if_neg y, if_neg y2]
      rw [e] at h
      exact h I2 (k1.tr (frK.o3 f2)) c2 (fun q => absurd (show 1 + 8 * sk B t (ncl B t c p s).2.1 = 0 from q) (by omega))
theorem sp_NetReader_read {I : am_I} {L : am_L} {B : Nat → Nat} {t : Nat} {s : NS} (hT : tpC I B t) (hs : nsC I s)
    (h : ∀ I', frK I I' → I' 13 3 = nI (ntL B t 41 0 0 s).1 → ((ntL B t 41 0 0 s).1 = 0 → nsC I' (ntL B t 41 0 0 s).2) → Q none I' L (gg Lx ρ)) : am_run (d + 7) m_NetReader_read [.ref 15, .ref 109] I L (gg Lx ρ) Q := by
  have f1 : fr13 I (am_u (am_u I 13 2 0) 13 3 0) := (fr13.rf.u2).u3
  refine run_in rfl rfl ⟨rfl, rfl⟩ (sy_NetReader_read_0 (d := d + 5) 109 (by decide) ?_)
  refine lp_nread 41 0 0 _ s (by omega) (by omega) (tpC_fr f1 hT) (Nat.zero_le _) ⟨?_, ?_⟩ (nsC_13 f1 hs) (fun I' k => h I' ((frK.o3 f1).tr k))
  · rw [am_u_nk (by decide), am_u_at]; rfl
  · rw [am_u_at]; rfl
theorem ntL_lt {B : Nat → Nat} {t : Nat} (hB : ∀ i, i < t → B i < 256) (ht : t ≤ 400) : ∀ F c p s, p ≤ t → (ntL B t F c p s).1 < 4000 := by
  intro F
  induction F with
  | zero => intro c p s hp; show 1 < 4000; decide
  | succ F ih =>
    intro c p s hp
    have hle := ncl_le (c := c) (s := s) hB ht hp
    have hk := sk_le (B := B) hle.1
    rw [ntL]
    split
    · exact hle.2
    · split
      · show 0 < 4000; decide
      · split
        · rename_i y _; have := pk_m y; exact ih _ _ _ (by omega)
        · show 1 + 8 * sk B t (ncl B t c p s).2.1 < 4000; omega
theorem sp_LL_net {I : am_I} {L : am_L} {B : Nat → Nat} {t n C m : Nat} {f : Nat → Int32} (hT : tpC I B t) (hS : stS I 94 f n C m)
    (h0 : ¬ (pNt f B t).1 = 0 → ∀ I', frW I I' → I' 94 = I 94 → (∀ a, 95 ≤ a → a ≤ 108 → I' a = I a) → I' 13 1 = 0 → Q (some (.int (-2 - nI (pNt f B t).1))) I' L (gg Lx ρ))
    (h1 : (pNt f B t).1 = 0 → ∀ I', frW I I' → I' 13 1 = 0 → stS I' 94 (pNt f B t).2.g (pNt f B t).2.n (pNt f B t).2.C (pNt f B t).2.m → Q (some (.int (nI (pNt f B t).2.n))) I' L (gg Lx ρ)) : am_run (d + 8) m_LL_net [.ref 12] I L (gg Lx ρ) Q := by
  have hst : (109 : Nat) ∈ stl := by decide
  refine run_in rfl rfl ⟨rfl, rfl⟩ (sz_LL_net_0 ?_)
  refine run_in (d := d + 6) rfl rfl ⟨rfl, rfl⟩ (sz_State_clear_0 109 hst ?_)
  refine run_in (d := d + 5) rfl rfl ⟨rfl, rfl⟩ (sz_Roads_clear_0 110 (by decide) ?_)
  refine sz_State_clear_7 109 hst ?_
  refine sp_fill (d := d + 5) (x := 109 + 14) (N := 16) rfl (by decide) (fun I1 f1 e1 => ?_)
  refine sz_State_clear_15 109 hst (sz_LL_net_7 ?_)
  have g1 : I1 110 = am_u (am_u (am_u I 110 5 0) 110 6 0) 110 7 0 110 := f1 110 (by decide)
  have f1 : ∀ a, ¬ (109 ≤ a ∧ a ≤ 123) → I1 a = I a := fun a z => (f1 a (by simp; omega)).trans (by rw [am_u_ne (by omega), am_u_ne (by omega), am_u_ne (by omega)])
  have u0 : ∀ {x y : Int32} {a : Nat}, a ≠ 109 → a ≠ 110 → am_u (am_u (am_u (am_u I1 109 9 0) 109 10 0) 110 8 x) 109 11 y a = I1 a := fun z1 z2 => by rw [am_u_ne z1, am_u_ne z2, am_u_ne z1, am_u_ne z1]
  have u1 : ∀ {a : Nat}, a ≠ 109 → am_u (am_u I1 109 9 0) 109 10 0 a = I1 a := fun z1 => by rw [am_u_ne z1, am_u_ne z1]
  have hf6 : I1 95 8 = f 6 := by rw [f1 95 (by decide)]; exact hS.1.2.2.2.1
  have hf5 : I1 94 11 = f 5 := by rw [f1 94 (by decide)]; exact hS.2.2.2.1
  refine sp_NetReader_read (d := d) (B := B) (t := t) (s := (0, 0, 0, 0, g0 f)) ⟨?_, hT.2.1, ?_⟩ ⟨⟨⟨?_, ?_, ?_, ?_, fun j hj => absurd hj (Nat.not_lt_zero j)⟩, ?_, ?_, ?_, fun j hj => absurd hj (Nat.not_lt_zero j), fun j hj => absurd hj (Nat.not_lt_zero j), fun j hj => absurd hj (Nat.not_lt_zero j)⟩, ?_, ?_, Nat.zero_le _, Nat.zero_le _, Nat.zero_le _, rfl, Nat.zero_le _⟩ (fun I2 k2 e2 o2 => ?_)
  · rw [u0 (by decide) (by decide), f1 13 (by decide)]; exact hT.1
  · rw [u0 (by decide) (by decide), f1 14 (by decide)]; exact hT.2.2
  · show am_u _ 109 11 _ 110 5 = g0 f 0
    rw [am_u_ne (by decide), am_u_nk (by decide), u1 (by decide), g1, am_u_nk (by decide), am_u_nk (by decide), am_u_at]; rfl
  · show am_u _ 109 11 _ 110 6 = nI 0
    rw [am_u_ne (by decide), am_u_nk (by decide), u1 (by decide), g1, am_u_nk (by decide), am_u_at]; rfl
  · show am_u _ 109 11 _ 110 7 = g0 f 4
    rw [am_u_ne (by decide), am_u_nk (by decide), u1 (by decide), g1, am_u_at]; rfl
  · show am_u _ 109 11 _ 110 8 = g0 f 6
    rw [am_u_ne (by decide), am_u_at, u1 (by decide), hf6]; rfl
  · show am_u _ 109 11 _ 109 9 = nI 0
    rw [am_u_nk (by decide), am_u_ne (by decide), am_u_nk (by decide), am_u_at]; rfl
  · show am_u _ 109 11 _ 109 10 = nI 0
    rw [am_u_nk (by decide), am_u_ne (by decide), am_u_at]; rfl
  · show am_u _ 109 11 _ 109 11 = g0 f 5
    rw [am_u_at, u1 (by decide), hf5]; rfl
  · rw [u0 (by decide) (by decide)]; exact e1
  · intro r hr
    show g0 f (136 + r) = -1
    unfold g0; rw [if_neg (by omega), if_pos (by omega)]
  · have k0 : frK I I2 := by
      refine ⟨fun a z1 z2 => ?_, ?_⟩
      · rw [k2.1 a z1 z2, u0 (by omega) (by omega)]; exact f1 a z2
      · rw [k2.2, u0 (by decide) (by decide), f1 13 (by decide)]
    have e2 : I2 13 3 = nI (pNt f B t).1 := e2
    have o2 : (pNt f B t).1 = 0 → nsC I2 (pNt f B t).2 := o2
    have hlt : (pNt f B t).1 < 4000 := ntL_lt (fun i hi => (hT.2.2 i hi).2) hT.2.1 41 0 0 _ (Nat.zero_le _)
    have k3 : ∀ a, a ≠ 13 → ¬ (109 ≤ a ∧ a ≤ 123) → am_u I2 13 1 0 a = I a := fun a z1 z2 => by rw [am_u_ne z1]; exact k0.1 a z1 z2
    refine sz_LL_net_52 (fun z => ?_) (fun z => ?_)
    · rw [e2] at z
      have z : (pNt f B t).1 = 0 := (nI_eq (b := 0) (by omega) (by decide)).mp z
      obtain ⟨s1, s2, s3, s4, s5, s6, s7⟩ := o2 z
      refine sp_State_copy (d := d + 4) (r := 94) (s := 109) (by decide) hst (by decide) (stS_fr (fun a z1 z2 => am_u_ne (by omega)) s1) s4 s5 s6 (fun I3 f3 r3 => ?_)
      refine sz_LL_net_92 ?_
      have e6 : I3 95 6 = nI (pNt f B t).2.n := r3.1.2.1
      rw [e6]
      refine h1 z I3 (fun a z1 z2 => ?_) ?_ r3
      · rw [f3 a (by omega)]; exact k3 a z1 (by omega)
      · rw [f3 13 (by decide), am_u_at]
    · rw [e2] at z
      rw [e2]
      exact h0 (fun q => z (by rw [q]; rfl)) _ (fun a z1 z2 => k3 a z1 (by omega)) (k3 94 (by decide) (by decide)) (fun a z1 z2 => k3 a (by omega) (by omega)) am_u_at
end NPE
