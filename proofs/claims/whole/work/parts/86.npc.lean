/-! ===== net: the class reads clauses ===== -/
theorem nm_ok {B : Nat → Nat} {t p : Nat} {lo hi un : Int32} (h : (nm B t p lo hi un).1 = 0) : ¬ nI (nm B t p lo hi un).2.2 < lo ∧ ¬ hi < nI (nm B t p lo hi un).2.2 ∧ ¬ nI (nm B t p lo hi un).2.2 = un := by
  unfold nm at h ⊢
  split at h
  · rename_i z
    rw [if_pos z]
    split at h
    · exact absurd (show 1 + 8 * sk B t p + 1 = 0 from h) (by omega)
    · rename_i y
      exact ⟨fun q => y (Or.inr (Or.inl q)), fun q => y (Or.inr (Or.inr (Or.inl q))), fun q => y (Or.inr (Or.inr (Or.inr q)))⟩
  · exact absurd (show 1 + 8 * sk B t p = 0 from h) (by omega)
theorem nm_bd {B : Nat → Nat} {t p a b : Nat} {lo hi un : Int32} (hB : ∀ i, i < t → B i < 256) (ht : t ≤ 400) (hp : p ≤ t) (hlo : lo = nI a) (hhi : hi = nI b) (ha : a < 2 ^ 31) (hb : b < 2 ^ 31) (h : (nm B t p lo hi un).1 = 0) : a ≤ (nm B t p lo hi un).2.2 ∧ (nm B t p lo hi un).2.2 ≤ b := by
  have h1 := nm_ok h
  have h2 := (nm_q (lo := lo) (hi := hi) (un := un) hB ht hp).2.1
  rw [hlo, hhi] at h1
  subst hlo hhi
  constructor
  · exact Decidable.byContradiction fun q => h1.1 (nI_lt (by omega) ha)
  · exact Decidable.byContradiction fun q => h1.2.1 (nI_lt (by omega) (by omega))
theorem nm_pl {B : Nat → Nat} {t p P : Nat} {h un : Int32} (hB : ∀ i, i < t → B i < 256) (ht : t ≤ 400) (hp : p ≤ t) (hP : P ≤ 10) (hh : h = nI P) (h0 : (nm B t p 0 (h - 1) un).1 = 0) : (nm B t p 0 (h - 1) un).2.2 < P := by
  cases P with
  | zero =>
    have h1 := (nm_ok h0).2.1
    have h2 := (nm_q (lo := 0) (hi := h - 1) (un := un) hB ht hp).2.1
    generalize (nm B t p 0 (h - 1) un).2.2 = v at h1 h2 ⊢
    have e : h - 1 = -1 := by rw [hh]; decide
    rw [e] at h1
    have g := nI_pos (show v < 2 ^ 31 by omega)
    have e1 : (-1 : Int32).toInt = -1 := by decide
    have e0 : (0 : Int32).toInt = 0 := by decide
    exact absurd (Int32.lt_iff_toInt_lt.mpr (by rw [Int32.lt_iff_toInt_lt, e0] at g; rw [e1]; omega)) h1
  | succ k =>
    have e : h - 1 = nI k := by rw [hh]; exact nI_pred k
    exact Nat.lt_succ_of_le (nm_bd (a := 0) (b := k) hB ht hp rfl e (by decide) (by omega) h0).2
def frK (I I' : am_I) : Prop := (∀ a, a ≠ 13 → ¬ (109 ≤ a ∧ a ≤ 123) → I' a = I a) ∧ I' 13 1 = I 13 1
theorem frK.rf {I : am_I} : frK I I := ⟨fun _ _ _ => rfl, rfl⟩
theorem frK.tr {I I' I2 : am_I} (h : frK I I') (g : frK I' I2) : frK I I2 := ⟨fun a z y => (g.1 a z y).trans (h.1 a z y), g.2.trans h.2⟩
theorem frK.o3 {I I' : am_I} (h : fr13 I I') : frK I I' := ⟨fun a z _ => h.1 a z, h.2 1 (by decide) (by decide)⟩
theorem frK.c {S : List Nat} {I I' : am_I} (h : frc S I I') (hS : ∀ a ∈ S, 109 ≤ a ∧ a ≤ 123) : frK I I' := ⟨fun a _ y => h a fun q => y (hS a q), by rw [h 13 fun q => by have := hS 13 q; omega]⟩
theorem frK.T {I I' : am_I} {B : Nat → Nat} {t : Nat} (h : frK I I') (hT : tpC I B t) : tpC I' B t := ⟨h.2.trans hT.1, hT.2.1, by rw [h.1 14 (by decide) (by decide)]; exact hT.2.2⟩
def nsC (I : am_I) (s : NS) : Prop := stS I 109 s.g s.n s.C s.m ∧ (∀ r, r < 16 → I 123 r = -1) ∧ (∀ r, r < 16 → s.g (136 + r) = -1) ∧ s.n ≤ 16 ∧ s.C ≤ 4 ∧ s.m ≤ 8 ∧ s.g 0 = nI s.P ∧ s.P ≤ 10
theorem nsC_13 {I I' : am_I} {s : NS} (h : fr13 I I') (hs : nsC I s) : nsC I' s := ⟨stS_fr (fun a z1 z2 => h.1 a (by omega)) hs.1, by rw [h.1 123 (by decide)]; exact hs.2.1, hs.2.2⟩
section NPC
variable {d Lx : Nat} {ρ : List (Nat × Nat)} {Q : am_Q}
theorem cur_fr {S : List Nat} {I I' : am_I} {p e : Nat} (h : frc S I I') (hS : 13 ∉ S) (hc : cur I p e) : cur I' p e := by
  unfold cur; rw [h 13 hS]; exact hc
theorem sp_readRoad {I : am_I} {L : am_L} {B : Nat → Nat} {t p n P : Nat} {f : Nat → Int32} (hT : tpC I B t) (hp : p ≤ t) (hc : cur I p 0) (hR : rdR I 110 f n) (hn : n < 16) (hP : f 0 = nI P) (hP10 : P ≤ 10)
    (h : ∀ I', (∀ a, a ≠ 13 → ¬ (110 ≤ a ∧ a ≤ 115) → I' a = I a) → frK I I' → cur I' (ro4 B t p (f 0 - 1)).2.1 (ff (ff (ff (q1 B t p (f 0 - 1)).1 (q2 B t p (f 0 - 1)).1) (ro3 B t p (f 0 - 1)).1) (ro4 B t p (f 0 - 1)).1) → (ff (ff (ff (q1 B t p (f 0 - 1)).1 (q2 B t p (f 0 - 1)).1) (ro3 B t p (f 0 - 1)).1) (ro4 B t p (f 0 - 1)).1 = 0 → rdR I' 110 (nr f n (nI (q1 B t p (f 0 - 1)).2.2) (nI (q2 B t p (f 0 - 1)).2.2) (nI (ro3 B t p (f 0 - 1)).2.2) (nI (ro4 B t p (f 0 - 1)).2.2)) (n + 1)) → Q none I' L (gg Lx ρ)) : am_run (d + 3) m_NetReader_readRoad [.ref 15, .ref 110] I L (gg Lx ρ) Q := by
  have hB := fun i hi => (hT.2.2 i hi).2
  have ht := hT.2.1
  have hr : (110 : Nat) ∈ rdl := by decide
  have a1 := q1_q (h := f 0 - 1) hB ht hp
  have a2 := q2_q (h := f 0 - 1) hB ht hp
  have a3 := ro3_q (h := f 0 - 1) hB ht hp
  have a4 := ro4_q (h := f 0 - 1) hB ht hp
  refine run_in rfl rfl ⟨rfl, rfl⟩ (sz_NetReader_readRoad_0 110 hr ?_)
  rw [hR.1]
  refine sp_passNumber hT hp (by decide) hc (fun I1 f1 c1 => ?_)
  refine sz_NetReader_readRoad_15 110 _ _ _ _ _ hr ?_
  have e1 : I1 110 5 = f 0 := by rw [f1.1 110 (by decide)]; exact hR.1
  rw [e1]
  have c1 : cur I1 (q1 B t p (f 0 - 1)).2.1 (q1 B t p (f 0 - 1)).1 := c1
  refine sp_passNumber (tpC_fr f1 hT) a1.1 (by omega) c1 (fun I2 f2 c2 => ?_)
  have f12 := f1.tr f2
  have c2 : cur I2 (q2 B t p (f 0 - 1)).2.1 (ff (q1 B t p (f 0 - 1)).1 (q2 B t p (f 0 - 1)).1) := c2
  refine sz_NetReader_readRoad_31 110 _ _ _ _ _ hr ?_
  refine sp_passNumber (tpC_fr f12 hT) a2.1 (Nat.lt_of_lt_of_le (ff_lt a1.2.2 a2.2.2) (by decide)) c2 (fun I3 f3 c3 => ?_)
  have f13 := f12.tr f3
  have c3 : cur I3 (ro3 B t p (f 0 - 1)).2.1 (ff (ff (q1 B t p (f 0 - 1)).1 (q2 B t p (f 0 - 1)).1) (ro3 B t p (f 0 - 1)).1) := c3
  refine sz_NetReader_readRoad_43 110 _ _ _ _ _ hr ?_
  refine sp_passNumber (tpC_fr f13 hT) a3.1 (Nat.lt_of_lt_of_le (ff_lt (ff_lt a1.2.2 a2.2.2) a3.2.2) (by decide)) c3 (fun I4 f4 c4 => ?_)
  have f14 := f13.tr f4
  refine sz_NetReader_readRoad_56 110 _ _ _ _ _ hr ?_
  refine sp_Roads_add (d := d) hr (rdR_fr (fun a z1 z2 => f14.1 a (by omega)) hR) (by omega) (fun I5 f5 r5 => ?_)
  refine sz_NetReader_readRoad_68 110 _ _ _ _ hr ?_
  refine h I5 (fun a z1 z2 => (f5 a (by simp only [List.mem_cons, List.not_mem_nil, or_false]; omega)).trans (f14.1 a z1)) ((frK.o3 f14).tr (frK.c f5 (fun a z => by simp only [List.mem_cons, List.not_mem_nil, or_false] at z; omega))) (cur_fr f5 (by decide) c4) (fun z => r5 ?_)
  have z1 := ff_0.mp (ff_0.mp (ff_0.mp z).1).1
  have e4 : I4 110 5 = nI P := by rw [f14.1 110 (by decide)]; exact hR.1.trans hP
  exact ⟨hPl_in hP10 e4 (nm_pl (h := f 0) hB ht hp hP10 hP z1.1), hPl_in hP10 e4 (nm_pl (h := f 0) hB ht a1.1 hP10 hP z1.2)⟩
theorem sp_addCarter {I : am_I} {L : am_L} {n C m : Nat} {f : Nat → Int32} {v : Int32} (hS : stS I 109 f n C m) (hC : C < 4) (hn : n ≤ 16)
    (h : ∀ I', frc [109, 116, 117, 118] I I' → (hPl I 110 v → stS I' 109 (cr f C v) n (C + 1) m) → Q none I' L (gg Lx ρ)) : am_run (d + 2) m_State_addCarter [.ref 109, .int v] I L (gg Lx ρ) Q := by
  obtain ⟨h1, h2, h3, h4, h5, h6, h7⟩ := hS
  have hs := h2
  have hcl : (nI C).toNatClampNeg = C := nI_clamp (by omega)
  have hin : vp_in (nI C) 4 := vp_in_nI hC (by decide)
  have m1 : ∀ {k : Nat} {w : Int32} {J : am_I}, am_u J 116 k w 109 = J 109 := fun {k w J} => am_u_ne (by omega)
  have m2 : ∀ {k : Nat} {w : Int32} {J : am_I}, am_u J 117 k w 109 = J 109 := fun {k w J} => am_u_ne (by omega)
  have m3 : ∀ {k : Nat} {w : Int32} {J : am_I}, am_u J 118 k w 109 = J 109 := fun {k w J} => am_u_ne (by omega)
  have hst : (109 : Nat) ∈ stl := by decide
  have lt4 : nI C < 4 := nI_lt hC (by decide)
  refine run_in rfl rfl ⟨rfl, rfl⟩ (sy_State_addCarter_0 (d := d) 109 v hst (fun z => absurd (by rw [hs]; exact lt4) z) (fun _ z => h I frc.rf (fun y => absurd y z)) (fun _ _ => ?_) (fun _ _ => ?_) (fun _ _ => ?_) (fun _ _ => ?_))
  · rw [hs]; exact hin
  · simp only [Nat.reduceAdd, m1, m2, m3, hs]; exact hin
  · simp only [Nat.reduceAdd, m1, m2, m3, hs]; exact hin
  · simp only [Nat.reduceAdd, m1, m2, m3, hs, hcl]
    refine h _ ((((frc.rf.u (by simp)).u (by simp)).u (by simp)).u (by simp)) (fun _ => ⟨⟨?_, ?_, ?_, ?_, fun j hj => ?_⟩, ?_, ?_, ?_, fun c hc => ?_, fun l hl => ?_, fun r hr => ?_⟩)
    · rw [cr_o (by omega)]; exact h1.1
    · exact h1.2.1
    · rw [cr_o (by omega)]; exact h1.2.2.1
    · rw [cr_o (by omega)]; exact h1.2.2.2.1
    · rw [cr_o (by omega), cr_o (by omega), cr_o (by omega), cr_o (by omega), cr_o (by omega)]; exact h1.2.2.2.2 j hj
    · rw [am_u_at, nI_1]
    · rw [am_u_nk (by decide), m3, m2, m1]; exact h3
    · rw [am_u_nk (by decide), m3, m2, m1, cr_o (by omega)]; exact h4
    · show am_u _ 109 9 _ 116 c = _ ∧ am_u _ 109 9 _ 117 c = _ ∧ am_u _ 109 9 _ 118 c = _
      rw [am_u_ne (show 116 ≠ 109 by decide), am_u_ne (show 117 ≠ 109 by decide), am_u_ne (show 118 ≠ 109 by decide), am_u_ne (show 116 ≠ 118 by decide), am_u_ne (show 117 ≠ 118 by decide), am_u_ne (show 116 ≠ 117 by decide)]
      by_cases z : c = C
      · subst z
        rw [am_u_at, am_u_at, am_u_at, cr_0, cr_1, cr_2]; exact ⟨rfl, rfl, rfl⟩
      · rw [am_u_nk z, am_u_nk z, am_u_nk z, am_u_ne (show 117 ≠ 116 by decide), am_u_ne (show 118 ≠ 117 by decide), am_u_ne (show 118 ≠ 116 by decide), cr_o (by omega), cr_o (by omega), cr_o (by omega)]
        exact h5 c (by omega)
    · rw [cr_o (by omega), cr_o (by omega), cr_o (by omega), cr_o (by omega)]; exact h6 l hl
    · rw [cr_o (by omega)]; exact h7 r hr
theorem sp_addLoad {I : am_I} {L : am_L} {n C m : Nat} {f : Nat → Int32} {a b c v : Int32} (hS : stS I 109 f n C m) (hC : C ≤ 4) (hm : m < 8) (hn : n ≤ 16)
    (h : ∀ I', frc [109, 119, 120, 121, 122] I I' → (hPl I 110 b ∧ hPl I 110 c → stS I' 109 (lr f m a b c v) n C (m + 1)) → Q none I' L (gg Lx ρ)) : am_run (d + 2) m_State_addLoad [.ref 109, .int a, .int b, .int c, .int v] I L (gg Lx ρ) Q := by
  obtain ⟨h1, h2, h3, h4, h5, h6, h7⟩ := hS
  have hs := h3
  have hcl : (nI m).toNatClampNeg = m := nI_clamp (by omega)
  have hin : vp_in (nI m) 8 := vp_in_nI hm (by decide)
  have m1 : ∀ {k : Nat} {w : Int32} {J : am_I}, am_u J 119 k w 109 = J 109 := fun {k w J} => am_u_ne (by omega)
  have m2 : ∀ {k : Nat} {w : Int32} {J : am_I}, am_u J 120 k w 109 = J 109 := fun {k w J} => am_u_ne (by omega)
  have m3 : ∀ {k : Nat} {w : Int32} {J : am_I}, am_u J 121 k w 109 = J 109 := fun {k w J} => am_u_ne (by omega)
  have m4 : ∀ {k : Nat} {w : Int32} {J : am_I}, am_u J 122 k w 109 = J 109 := fun {k w J} => am_u_ne (by omega)
  have hst : (109 : Nat) ∈ stl := by decide
  have lt8 : nI m < 8 := nI_lt hm (by decide)
  refine run_in rfl rfl ⟨rfl, rfl⟩ (sy_State_addLoad_0 (d := d) 109 a b c v hst (fun z => absurd (by rw [hs]; exact lt8) z) (fun _ z => h I frc.rf (fun y => absurd y.1 z)) (fun _ _ z => h I frc.rf (fun y => absurd y.2 z)) (fun _ _ _ => ?_) (fun _ _ _ => ?_) (fun _ _ _ => ?_) (fun _ _ _ => ?_) (fun _ _ _ => ?_))
  · rw [hs]; exact hin
  · simp only [Nat.reduceAdd, m1, m2, m3, m4, hs]; exact hin
  · simp only [Nat.reduceAdd, m1, m2, m3, m4, hs]; exact hin
  · simp only [Nat.reduceAdd, m1, m2, m3, m4, hs]; exact hin
  · simp only [Nat.reduceAdd, m1, m2, m3, m4, hs, hcl]
    refine h _ (((((frc.rf.u (by simp)).u (by simp)).u (by simp)).u (by simp)).u (by simp)) (fun _ => ⟨⟨?_, ?_, ?_, ?_, fun j hj => ?_⟩, ?_, ?_, ?_, fun c hc => ?_, fun l hl => ?_, fun r hr => ?_⟩)
    · rw [lr_o (by omega)]; exact h1.1
    · exact h1.2.1
    · rw [lr_o (by omega)]; exact h1.2.2.1
    · rw [lr_o (by omega)]; exact h1.2.2.2.1
    · rw [lr_o (by omega), lr_o (by omega), lr_o (by omega), lr_o (by omega), lr_o (by omega)]; exact h1.2.2.2.2 j hj
    · rw [am_u_nk (by decide), m4, m3, m2, m1]; exact h2
    · rw [am_u_at, nI_1]
    · rw [am_u_nk (by decide), m4, m3, m2, m1, lr_o (by omega)]; exact h4
    · rw [lr_o (by omega), lr_o (by omega), lr_o (by omega)]; exact h5 c hc
    · show am_u _ 109 10 _ 119 l = _ ∧ am_u _ 109 10 _ 120 l = _ ∧ am_u _ 109 10 _ 121 l = _ ∧ am_u _ 109 10 _ 122 l = _
      rw [am_u_ne (show 119 ≠ 109 by decide), am_u_ne (show 120 ≠ 109 by decide), am_u_ne (show 121 ≠ 109 by decide), am_u_ne (show 122 ≠ 109 by decide), am_u_ne (show 119 ≠ 122 by decide), am_u_ne (show 120 ≠ 122 by decide), am_u_ne (show 121 ≠ 122 by decide), am_u_ne (show 119 ≠ 121 by decide), am_u_ne (show 120 ≠ 121 by decide), am_u_ne (show 119 ≠ 120 by decide)]
      by_cases z : l = m
      · subst z
        rw [am_u_at, am_u_at, am_u_at, am_u_at, lr_0, lr_1, lr_2, lr_3]; exact ⟨rfl, rfl, rfl, rfl⟩
      · rw [am_u_nk z, am_u_nk z, am_u_nk z, am_u_nk z, am_u_ne (show 120 ≠ 119 by decide), am_u_ne (show 121 ≠ 120 by decide), am_u_ne (show 121 ≠ 119 by decide), am_u_ne (show 122 ≠ 121 by decide), am_u_ne (show 122 ≠ 120 by decide), am_u_ne (show 122 ≠ 119 by decide), lr_o (by omega), lr_o (by omega), lr_o (by omega), lr_o (by omega)]
        exact h6 l (by omega)
    · rw [lr_o (by omega)]; exact h7 r hr
theorem sp_readLoad {I : am_I} {L : am_L} {B : Nat → Nat} {t p n C m P : Nat} {f : Nat → Int32} (hT : tpC I B t) (hp : p ≤ t) (hc : cur I p 0) (hS : stS I 109 f n C m) (hC : C ≤ 4) (hm : m < 8) (hn : n ≤ 16) (hP : f 0 = nI P) (hP10 : P ≤ 10)
    (h : ∀ I', frK I I' → I' 123 = I 123 → cur I' (lo4 B t p (f 0 - 1)).2.1 (ff (ff (ff (lo1 B t p).1 (q1 B t (lo1 B t p).2.1 (f 0 - 1)).1) (q2 B t (lo1 B t p).2.1 (f 0 - 1)).1) (lo4 B t p (f 0 - 1)).1) → (ff (ff (ff (lo1 B t p).1 (q1 B t (lo1 B t p).2.1 (f 0 - 1)).1) (q2 B t (lo1 B t p).2.1 (f 0 - 1)).1) (lo4 B t p (f 0 - 1)).1 = 0 → stS I' 109 (lr f m (nI (lo1 B t p).2.2) (nI (q1 B t (lo1 B t p).2.1 (f 0 - 1)).2.2) (nI (q2 B t (lo1 B t p).2.1 (f 0 - 1)).2.2) (nI (lo4 B t p (f 0 - 1)).2.2)) n C (m + 1)) → Q none I' L (gg Lx ρ)) : am_run (d + 3) m_NetReader_readLoad [.ref 15, .ref 109] I L (gg Lx ρ) Q := by
  have hB := fun i hi => (hT.2.2 i hi).2
  have ht := hT.2.1
  have hr : (109 : Nat) ∈ stl := by decide
  have a0 := lo1_q hB ht hp
  have a1 := q1_q (h := f 0 - 1) hB ht a0.1
  have a2 := q2_q (h := f 0 - 1) hB ht a0.1
  have a4 := lo4_q (h := f 0 - 1) hB ht hp
  refine run_in rfl rfl ⟨rfl, rfl⟩ (sz_NetReader_readLoad_0 109 hr ?_)
  refine sp_passNumber hT hp (by decide) hc (fun I1 f1 c1 => ?_)
  refine sz_NetReader_readLoad_11 109 _ _ _ _ _ hr ?_
  have e1 : I1 (109 + 1) 5 = f 0 := by rw [f1.1 (109 + 1) (by decide)]; exact hS.1.1
  rw [e1]
  have c1 : cur I1 (lo1 B t p).2.1 (lo1 B t p).1 := c1
  refine sp_passNumber (tpC_fr f1 hT) a0.1 (by omega) c1 (fun I2 f2 c2 => ?_)
  have f12 := f1.tr f2
  have c2 : cur I2 (q1 B t (lo1 B t p).2.1 (f 0 - 1)).2.1 (ff (lo1 B t p).1 (q1 B t (lo1 B t p).2.1 (f 0 - 1)).1) := c2
  refine sz_NetReader_readLoad_30 109 _ _ _ _ _ hr ?_
  have e2 : I2 (109 + 1) 5 = f 0 := by rw [f12.1 (109 + 1) (by decide)]; exact hS.1.1
  rw [e2]
  refine sp_passNumber (tpC_fr f12 hT) a1.1 (Nat.lt_of_lt_of_le (ff_lt a0.2.2 a1.2.2) (by decide)) c2 (fun I3 f3 c3 => ?_)
  have f13 := f12.tr f3
  have c3 : cur I3 (q2 B t (lo1 B t p).2.1 (f 0 - 1)).2.1 (ff (ff (lo1 B t p).1 (q1 B t (lo1 B t p).2.1 (f 0 - 1)).1) (q2 B t (lo1 B t p).2.1 (f 0 - 1)).1) := c3
  refine sz_NetReader_readLoad_49 109 _ _ _ _ _ hr ?_
  refine sp_passNumber (tpC_fr f13 hT) a2.1 (Nat.lt_of_lt_of_le (ff_lt (ff_lt a0.2.2 a1.2.2) a2.2.2) (by decide)) c3 (fun I4 f4 c4 => ?_)
  have f14 := f13.tr f4
  refine sz_NetReader_readLoad_62 109 _ _ _ _ _ hr ?_
  refine sp_addLoad (d := d) (stS_fr (fun a z1 z2 => f14.1 a (by omega)) hS) hC hm hn (fun I5 f5 r5 => ?_)
  refine sz_NetReader_readLoad_74 109 _ _ _ _ hr ?_
  refine h I5 ((frK.o3 f14).tr (frK.c f5 (fun a z => by simp only [List.mem_cons, List.not_mem_nil, or_false] at z; omega))) ((f5 123 (by decide)).trans (f14.1 123 (by decide))) (cur_fr f5 (by decide) c4) (fun z => r5 ?_)
  have z1 := ff_0.mp (ff_0.mp z).1
  have e4 : I4 110 5 = nI P := by rw [f14.1 110 (by decide)]; exact hS.1.1.trans hP
  exact ⟨hPl_in hP10 e4 (nm_pl (h := f 0) hB ht a0.1 hP10 hP (ff_0.mp z1.1).2), hPl_in hP10 e4 (nm_pl (h := f 0) hB ht a1.1 hP10 hP z1.2)⟩
end NPC
