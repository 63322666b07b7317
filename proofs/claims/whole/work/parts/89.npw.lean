/-! ===== net: what is read is well formed ===== -/
def wfCa (g : Nat → Int32) (C : Nat) : Prop := ∀ c, c < C → g (92 + 3 * c) = nI (cS g c) ∧ cS g c < 10 ∧ g (92 + 3 * c + 1) = -1 ∧ g (92 + 3 * c + 2) = 0
def nsW (f : Nat → Int32) (c : Nat) (s : NS) : Prop := s.g 0 = nI s.P ∧ s.P ≤ 10 ∧ (c = 0 ↔ s.P = 0) ∧ s.n ≤ 16 ∧ s.C ≤ 4 ∧ s.m ≤ 8 ∧ wfN s.g s.n ∧ (∀ j, j < s.n → s.g (7 + 5 * j + 4) = 0) ∧ wfCa s.g s.C ∧ wfL s.g s.P s.m ∧ (c = 0 → s.n = 0 ∧ s.C = 0 ∧ s.m = 0) ∧
  (∀ i, 1 ≤ i → (i < 7 ∨ (7 + 5 * s.n ≤ i ∧ i < 92) ∨ (92 + 3 * s.C ≤ i ∧ i < 104) ∨ 104 + 4 * s.m ≤ i) → s.g i = g0 f i)
theorem nsW_0 {f : Nat → Int32} : nsW f 0 (0, 0, 0, 0, g0 f) :=
  ⟨rfl, Nat.zero_le _, ⟨fun _ => rfl, fun _ => rfl⟩, Nat.zero_le _, Nat.zero_le _, Nat.zero_le _, ⟨Nat.zero_le _, fun j hj => absurd hj (Nat.not_lt_zero j)⟩, fun j hj => absurd hj (Nat.not_lt_zero j), fun j hj => absurd hj (Nat.not_lt_zero j), fun j hj => absurd hj (Nat.not_lt_zero j), fun _ => ⟨rfl, rfl, rfl⟩, fun _ _ _ => rfl⟩
theorem wfCa_c {g g' : Nat → Int32} {C : Nat} (hC : C ≤ 4) (h : wfCa g C) (hg : ∀ i, 92 ≤ i → i < 92 + 3 * C → g' i = g i) : wfCa g' C := by
  intro c hc
  have := h c hc
  unfold cS at this ⊢
  rw [hg _ (by omega) (by omega), hg _ (by omega) (by omega), hg _ (by omega) (by omega)]
  exact this
theorem wfL_d {g g' : Nat → Int32} {P m : Nat} (h : wfL g P m) (hg : ∀ i, 104 ≤ i → i < 104 + 4 * m → g' i = g i) : wfL g' P m := by
  intro l hl
  have := h l hl
  unfold lK lP lG lW at this ⊢
  rw [hg _ (by omega) (by omega), hg _ (by omega) (by omega), hg _ (by omega) (by omega), hg _ (by omega) (by omega)]
  exact this
theorem nsW_Pl {f : Nat → Int32} {B : Nat → Nat} {t p : Nat} {s : NS} (hB : ∀ i, i < t → B i < 256) (ht : t ≤ 400) (hp : p ≤ t) (h : nsW f 0 s) (h0 : (nPl B t p s).1 = 0) : nsW f 1 (nPl B t p s).2.2 := by
  obtain ⟨w1, w2, w3, w4, w5, w6, w7, w8, w9, w10, w11, w12⟩ := h
  obtain ⟨z1, z2, z3⟩ := w11 rfl
  have hv := nm_bd (a := 1) (b := 10) hB ht hp rfl rfl (by decide) (by decide) h0
  have e1 : (nPl B t p s).2.2.n = 0 := z1
  have e2 : (nPl B t p s).2.2.C = 0 := z2
  have e3 : (nPl B t p s).2.2.m = 0 := z3
  refine ⟨show up0 s.g _ 0 = _ from if_pos rfl, hv.2, ⟨fun q => absurd q (by decide), fun q => ?_⟩, w4, w5, w6, ⟨by show s.n ≤ 17; omega, fun j hj => ?_⟩, fun j hj => ?_, fun j hj => ?_, fun j hj => ?_, fun q => absurd q (by decide), fun i hi hq => ?_⟩
  · have hv : 1 ≤ (nm B t p 1 10 (-1)).2.2 ∧ _ := hv
    have : (nm B t p 1 10 (-1)).2.2 = 0 := q
    omega
  · rw [e1] at hj; exact absurd hj (Nat.not_lt_zero j)
  · rw [e1] at hj; exact absurd hj (Nat.not_lt_zero j)
  · rw [e2] at hj; exact absurd hj (Nat.not_lt_zero j)
  · rw [e3] at hj; exact absurd hj (Nat.not_lt_zero j)
  · have e : (nPl B t p s).2.2.g i = s.g i := if_neg (by omega)
    rw [e]; exact w12 i hi hq
theorem hi_P {f : Nat → Int32} {c : Nat} {s : NS} (hc : 0 < c) (h : nsW f c s) : s.g 0 - 1 = nI (s.P - 1) ∧ 1 ≤ s.P ∧ s.P ≤ 10 := by
  obtain ⟨w1, w2, w3, _⟩ := h
  have : s.P ≠ 0 := fun q => absurd (w3.mpr q) (by omega)
  obtain ⟨k, hk⟩ : ∃ k, s.P = k + 1 := ⟨s.P - 1, by omega⟩
  refine ⟨?_, by omega, w2⟩
  rw [w1, hk]; exact nI_pred k
theorem nsW_Ro {f : Nat → Int32} {B : Nat → Nat} {t p c : Nat} {s : NS} (hB : ∀ i, i < t → B i < 256) (ht : t ≤ 400) (hp : p ≤ t) (hc : 0 < c) (hn : s.n < 16) (h : nsW f c s) (h0 : (nRo B t p s).1 = 0) : nsW f (c + 1) (nRo B t p s).2.2 := by
  obtain ⟨hP, hP1, hP2⟩ := hi_P hc h
  obtain ⟨w1, w2, w3, w4, w5, w6, w7, w8, w9, w10, w11, w12⟩ := h
  have hh := ff_0.mp h0
  have hh2 := ff_0.mp hh.1
  have hh3 := ff_0.mp hh2.1
  have b1 := nm_bd (a := 0) (b := s.P - 1) hB ht hp rfl hP (by decide) (by omega) hh3.1
  have b2 := nm_bd (a := 0) (b := s.P - 1) hB ht (q1_q hB ht hp).1 rfl hP (by decide) (by omega) hh3.2
  have n2 := (nm_ok hh3.2).2.2
  have b3 := nm_bd (a := 1) (b := 9) hB ht (q2_q hB ht hp).1 rfl rfl (by decide) (by decide) hh2.2
  have b4 := nm_bd (a := 0) (b := 7) hB ht (ro3_q hB ht hp).1 rfl rfl (by decide) (by decide) hh.2
  have b1 : (q1 B t p (s.g 0 - 1)).2.2 ≤ s.P - 1 := b1.2
  have b2 : (q2 B t p (s.g 0 - 1)).2.2 ≤ s.P - 1 := b2.2
  have n2 : ¬ nI (q2 B t p (s.g 0 - 1)).2.2 = nI (q1 B t p (s.g 0 - 1)).2.2 := n2
  have b3 : 1 ≤ (ro3 B t p (s.g 0 - 1)).2.2 ∧ (ro3 B t p (s.g 0 - 1)).2.2 ≤ 9 := b3
  have b4 : (ro4 B t p (s.g 0 - 1)).2.2 ≤ 7 := b4.2
  have o : ∀ i, i < 7 + 5 * s.n ∨ 7 + 5 * s.n + 4 < i → (nRo B t p s).2.2.g i = s.g i := fun i hi => nr_o hi
  refine ⟨(o 0 (by omega)).trans w1, w2, ⟨fun q => absurd q (by omega), fun q => absurd (show s.P = 0 from q) (by omega)⟩, (show s.n + 1 ≤ 16 by omega), w5, w6, wfN_nr w7 (by omega) (by omega) (by omega) (fun q => n2 (by rw [q])) b3.1 b3.2 b4, fun j hj => ?_, wfCa_c w5 w9 (fun i h1 h2 => o i (by omega)), wfL_d w10 (fun i h1 h2 => o i (by omega)), fun q => absurd q (by omega), fun i hi hq => ?_⟩
  · have hj : j < s.n + 1 := hj
    by_cases z : j = s.n
    · subst z; exact nr_4
    · rw [o _ (by omega)]; exact w8 j (by omega)
  · have hq : (i < 7 ∨ (7 + 5 * (s.n + 1) ≤ i ∧ i < 92) ∨ (92 + 3 * s.C ≤ i ∧ i < 104) ∨ 104 + 4 * s.m ≤ i) := hq
    rw [o i (by omega)]; exact w12 i hi (by omega)
theorem nsW_Ca {f : Nat → Int32} {B : Nat → Nat} {t p c : Nat} {s : NS} (hB : ∀ i, i < t → B i < 256) (ht : t ≤ 400) (hp : p ≤ t) (hc : 0 < c) (hn : s.C < 4) (h : nsW f c s) (h0 : (nCa B t p s).1 = 0) : nsW f (c + 1) (nCa B t p s).2.2 := by
  obtain ⟨hP, hP1, hP2⟩ := hi_P hc h
  obtain ⟨w1, w2, w3, w4, w5, w6, w7, w8, w9, w10, w11, w12⟩ := h
  have b1 := nm_bd (a := 0) (b := s.P - 1) hB ht hp rfl hP (by decide) (by omega) h0
  have b1 : (q1 B t p (s.g 0 - 1)).2.2 ≤ s.P - 1 := b1.2
  have o : ∀ i, i < 92 + 3 * s.C ∨ 92 + 3 * s.C + 2 < i → (nCa B t p s).2.2.g i = s.g i := fun i hi => cr_o hi
  refine ⟨(o 0 (by omega)).trans w1, w2, ⟨fun q => absurd q (by omega), fun q => absurd (show s.P = 0 from q) (by omega)⟩, w4, (show s.C + 1 ≤ 4 by omega), w6, wfN_c w7 w4 (fun i h1 h2 => o i (by omega)), fun j hj => ?_, fun k hk => ?_, wfL_d w10 (fun i h1 h2 => o i (by omega)), fun q => absurd q (by omega), fun i hi hq => ?_⟩
  · have hj : j < s.n := hj
    rw [o _ (by omega)]; exact w8 j (by omega)
  · have hk : k < s.C + 1 := hk
    by_cases z : k = s.C
    · subst z
      have e0 : (nCa B t p s).2.2.g (92 + 3 * s.C) = nI (q1 B t p (s.g 0 - 1)).2.2 := cr_0
      refine ⟨?_, ?_, cr_1, cr_2⟩
      · unfold cS; rw [e0, nI_clamp (by omega)]
      · unfold cS; rw [e0, nI_clamp (by omega)]; omega
    · have := w9 k (by omega)
      unfold cS at this ⊢
      rw [o _ (by omega), o _ (by omega), o _ (by omega)]
      exact this
  · have hq : (i < 7 ∨ (7 + 5 * s.n ≤ i ∧ i < 92) ∨ (92 + 3 * (s.C + 1) ≤ i ∧ i < 104) ∨ 104 + 4 * s.m ≤ i) := hq
    rw [o i (by omega)]; exact w12 i hi (by omega)
theorem nsW_Lo {f : Nat → Int32} {B : Nat → Nat} {t p c : Nat} {s : NS} (hB : ∀ i, i < t → B i < 256) (ht : t ≤ 400) (hp : p ≤ t) (hc : 0 < c) (hn : s.m < 8) (h : nsW f c s) (h0 : (nLo B t p s).1 = 0) : nsW f (c + 1) (nLo B t p s).2.2 := by
  obtain ⟨hP, hP1, hP2⟩ := hi_P hc h
  obtain ⟨w1, w2, w3, w4, w5, w6, w7, w8, w9, w10, w11, w12⟩ := h
  have hh := ff_0.mp h0
  have hh2 := ff_0.mp hh.1
  have hh3 := ff_0.mp hh2.1
  have a1 := (lo1_q hB ht hp).1
  have b1 := nm_bd (a := 1) (b := 7) hB ht hp rfl rfl (by decide) (by decide) hh3.1
  have b2 := nm_bd (a := 0) (b := s.P - 1) hB ht a1 rfl hP (by decide) (by omega) hh3.2
  have b3 := nm_bd (a := 0) (b := s.P - 1) hB ht (q1_q hB ht a1).1 rfl hP (by decide) (by omega) hh2.2
  have b4 := nm_bd (a := 0) (b := 99) hB ht (q2_q hB ht a1).1 rfl rfl (by decide) (by decide) hh.2
  have b1 : 1 ≤ (lo1 B t p).2.2 ∧ (lo1 B t p).2.2 ≤ 7 := b1
  have b2 : (q1 B t (lo1 B t p).2.1 (s.g 0 - 1)).2.2 ≤ s.P - 1 := b2.2
  have b3 : (q2 B t (lo1 B t p).2.1 (s.g 0 - 1)).2.2 ≤ s.P - 1 := b3.2
  have b4 : (lo4 B t p (s.g 0 - 1)).2.2 ≤ 99 := b4.2
  have o : ∀ i, i < 104 + 4 * s.m ∨ 104 + 4 * s.m + 3 < i → (nLo B t p s).2.2.g i = s.g i := fun i hi => lr_o hi
  refine ⟨(o 0 (by omega)).trans w1, w2, ⟨fun q => absurd q (by omega), fun q => absurd (show s.P = 0 from q) (by omega)⟩, w4, w5, (show s.m + 1 ≤ 8 by omega), wfN_c w7 w4 (fun i h1 h2 => o i (by omega)), fun j hj => ?_, wfCa_c (C := s.C) w5 w9 (fun i h1 h2 => o i (by omega)), fun k hk => ?_, fun q => absurd q (by omega), fun i hi hq => ?_⟩
  · have hj : j < s.n := hj
    rw [o _ (by omega)]; exact w8 j (by omega)
  · have hk : k < s.m + 1 := hk
    show _ ∧ _ ∧ _ ∧ _ ∧ _ ∧ _ < s.P ∧ _
    by_cases z : k = s.m
    · subst z
      have e0 : (nLo B t p s).2.2.g (104 + 4 * s.m) = nI (lo1 B t p).2.2 := lr_0
      have e1 : (nLo B t p s).2.2.g (104 + 4 * s.m + 1) = nI (q1 B t (lo1 B t p).2.1 (s.g 0 - 1)).2.2 := lr_1
      have e2 : (nLo B t p s).2.2.g (104 + 4 * s.m + 2) = nI (q2 B t (lo1 B t p).2.1 (s.g 0 - 1)).2.2 := lr_2
      have e3 : (nLo B t p s).2.2.g (104 + 4 * s.m + 3) = nI (lo4 B t p (s.g 0 - 1)).2.2 := lr_3
      unfold lK lP lG lW
      rw [e0, e1, e2, e3, nI_clamp (by omega), nI_clamp (by omega), nI_clamp (by omega), nI_clamp (by omega)]
      exact ⟨rfl, b1.1, b1.2, Or.inr ⟨rfl, by omega⟩, rfl, by omega, rfl, b4⟩
    · have := w10 k (by omega)
      unfold lK lP lG lW at this ⊢
      rw [o _ (by omega), o _ (by omega), o _ (by omega), o _ (by omega)]
      exact this
  · have hq : (i < 7 ∨ (7 + 5 * s.n ≤ i ∧ i < 92) ∨ (92 + 3 * s.C ≤ i ∧ i < 104) ∨ 104 + 4 * (s.m + 1) ≤ i) := hq
    rw [o i (by omega)]; exact w12 i hi (by omega)
theorem nsW_cl {f : Nat → Int32} {B : Nat → Nat} {t c p : Nat} {s : NS} (hB : ∀ i, i < t → B i < 256) (ht : t ≤ 400) (hp : p ≤ t) (h : nsW f c s) (h0 : (ncl B t c p s).1 = 0) : nsW f (c + 1) (ncl B t c p s).2.2 := by
  have hs := sk_le (B := B) hp
  unfold ncl at h0 ⊢
  split at h0
  · rename_i w1
    have hq : sk B t p + 6 ≤ t := isW_le hs.2 w1
    rw [if_pos w1]
    split at h0
    · rename_i z; subst z; rw [if_pos rfl]; exact nsW_Pl hB ht hq h h0
    · exact absurd (show 1 + 8 * sk B t p + 4 = 0 from h0) (by omega)
  · rename_i w1
    rw [if_neg w1]
    split at h0
    · rename_i w2
      have hq : sk B t p + 4 ≤ t := isW_le hs.2 w2
      rw [if_pos w2]
      split at h0
      · rename_i z; rw [if_pos z]; exact nsW_Ro hB ht hq z.1 z.2.2 h h0
      · exact absurd (show 1 + 8 * sk B t p + 4 = 0 from h0) (by omega)
    · rename_i w2
      rw [if_neg w2]
      split at h0
      · rename_i w3
        have hq : sk B t p + 6 ≤ t := isW_le hs.2 w3
        rw [if_pos w3]
        split at h0
        · rename_i z; rw [if_pos z]; exact nsW_Ca hB ht hq z.1 z.2.2 h h0
        · exact absurd (show 1 + 8 * sk B t p + 4 = 0 from h0) (by omega)
      · rename_i w3
        rw [if_neg w3]
        split at h0
        · rename_i w4
          have hq : sk B t p + 4 ≤ t := isW_le hs.2 w4
          rw [if_pos w4]
          split at h0
          · rename_i z; rw [if_pos z]; exact nsW_Lo hB ht hq z.1 z.2.2 h h0
          · exact absurd (show 1 + 8 * sk B t p + 4 = 0 from h0) (by omega)
        · exact absurd (show 1 + 8 * sk B t p = 0 from h0) (by omega)
theorem nsW_tL {f : Nat → Int32} {B : Nat → Nat} {t : Nat} (hB : ∀ i, i < t → B i < 256) (ht : t ≤ 400) : ∀ F c p s, p ≤ t → nsW f c s → (ntL B t F c p s).1 = 0 → ∃ c', nsW f (c' + 1) (ntL B t F c p s).2 := by
  intro F
  induction F with
  | zero => intro c p s hp hw h0; exact absurd (show 1 = 0 from h0) (by decide)
  | succ F ih =>
    intro c p s hp hw h0
    have hle := ncl_le (c := c) (s := s) hB ht hp
    rw [ntL] at h0 ⊢
    split at h0
    · rename_i z; exact absurd h0 z
    · rename_i z
      have z : (ncl B t c p s).1 = 0 := Decidable.byContradiction z
      rw [if_neg (fun q => q z)]
      have hw2 := nsW_cl hB ht hp hw z
      split at h0
      · rename_i y; rw [if_pos y]; exact ⟨c, hw2⟩
      · rename_i y
        rw [if_neg y]
        have := pk_m y
        split at h0
        · rename_i y2; rw [if_pos y2]; exact ih _ _ _ (by omega) hw2 h0
        · exact absurd (show 1 + 8 * sk B t (ncl B t c p s).2.1 = 0 from h0) (by omega)
/-- the said behind a net -/
def fin (s : NS) : Nat → Int32 := fun i => if i = 1 then nI s.n else if i = 2 then nI s.C else if i = 3 then nI s.m else s.g i
theorem fin_o {s : NS} {i : Nat} (h : i = 0 ∨ 3 < i) : fin s i = s.g i := by
  unfold fin; rw [if_neg (by omega), if_neg (by omega), if_neg (by omega)]
theorem wfS_fin {Rs : List (List (Nat × List Nat))} {f : Nat → Int32} {c : Nat} {s : NS} (h : nsW f c s) (h5 : ¬ f 5 < 0) (h6 : foR Rs (f 6)) : wfS Rs (fin s) s.P s.n s.C s.m := by
  obtain ⟨w1, w2, w3, w4, w5, w6, w7, w8, w9, w10, w11, w12⟩ := h
  refine ⟨(fin_o (by omega)).trans w1, w2, rfl, w4, wfN_c w7 w4 (fun i h1 h2 => fin_o (by omega)), rfl, w5, rfl, w6, ?_, ?_, fun k hk => ?_, wfL_d w10 (fun i h1 h2 => fin_o (by omega)), fun r hr => Or.inl ?_⟩
  · rw [fin_o (by omega), w12 6 (by omega) (by omega)]; exact h6
  · rw [fin_o (by omega), w12 5 (by omega) (by omega)]; exact h5
  · have := w9 k hk
    unfold cS at this
    unfold cS cD
    rw [fin_o (by omega), fin_o (by omega), fin_o (by omega), this.2.2.2]
    exact ⟨this.1, this.2.1, Or.inl this.2.2.1, rfl, by decide⟩
  · rw [fin_o (by omega), w12 _ (by omega) (by omega)]
    unfold g0; rw [if_neg (by omega), if_pos (by omega)]
theorem stS_fin {I : am_I} {s : NS} {a : Nat} (h : stS I a s.g s.n s.C s.m) : stS I a (fin s) s.n s.C s.m := by
  obtain ⟨⟨g1, g2, g3, g4, g5⟩, h2, h3, h4, h5, h6, h7⟩ := h
  refine ⟨⟨?_, g2, ?_, ?_, fun j hj => ?_⟩, h2, h3, ?_, fun c hc => ?_, fun l hl => ?_, fun r hr => ?_⟩
  · rw [fin_o (by omega)]; exact g1
  · rw [fin_o (by omega)]; exact g3
  · rw [fin_o (by omega)]; exact g4
  · rw [fin_o (by omega), fin_o (by omega), fin_o (by omega), fin_o (by omega), fin_o (by omega)]; exact g5 j hj
  · rw [fin_o (by omega)]; exact h4
  · rw [fin_o (by omega), fin_o (by omega), fin_o (by omega)]; exact h5 c hc
  · rw [fin_o (by omega), fin_o (by omega), fin_o (by omega), fin_o (by omega)]; exact h6 l hl
  · rw [fin_o (by omega)]; exact h7 r hr
