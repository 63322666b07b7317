/-! ===== net: how its clauses are read ===== -/
/-- what was read: places, roads, carters, loads, all as in the said -/
abbrev NS : Type := Nat × Nat × Nat × Nat × (Nat → Int32)
abbrev NS.P (s : NS) : Nat := s.1
abbrev NS.n (s : NS) : Nat := s.2.1
abbrev NS.C (s : NS) : Nat := s.2.2.1
abbrev NS.m (s : NS) : Nat := s.2.2.2.1
abbrev NS.g (s : NS) : Nat → Int32 := s.2.2.2.2
def wPl : List Nat := [112, 108, 97, 99, 101, 115]
def wRo : List Nat := [114, 111, 97, 100]
def wCa : List Nat := [99, 97, 114, 116, 101, 114]
def wLo : List Nat := [108, 111, 97, 100]
def up0 (g : Nat → Int32) (v : Int32) : Nat → Int32 := fun i => if i = 0 then v else g i
def cr (g : Nat → Int32) (c : Nat) (v : Int32) : Nat → Int32 := fun i => if i = 92 + 3 * c then v else if i = 92 + 3 * c + 1 then -1 else if i = 92 + 3 * c + 2 then 0 else g i
def lr (g : Nat → Int32) (l : Nat) (a b c v : Int32) : Nat → Int32 := fun i => if i = 104 + 4 * l then a else if i = 104 + 4 * l + 1 then b else if i = 104 + 4 * l + 2 then c else if i = 104 + 4 * l + 3 then v else g i
theorem cr_o {g : Nat → Int32} {c i : Nat} {v : Int32} (h : i < 92 + 3 * c ∨ 92 + 3 * c + 2 < i) : cr g c v i = g i := by
  unfold cr; rw [if_neg (by omega), if_neg (by omega), if_neg (by omega)]
theorem cr_0 {g : Nat → Int32} {c : Nat} {v : Int32} : cr g c v (92 + 3 * c) = v := if_pos rfl
theorem cr_1 {g : Nat → Int32} {c : Nat} {v : Int32} : cr g c v (92 + 3 * c + 1) = -1 := by
  unfold cr; rw [if_neg (by omega), if_pos rfl]
theorem cr_2 {g : Nat → Int32} {c : Nat} {v : Int32} : cr g c v (92 + 3 * c + 2) = 0 := by
  unfold cr; rw [if_neg (by omega), if_neg (by omega), if_pos rfl]
theorem lr_o {g : Nat → Int32} {l i : Nat} {a b c v : Int32} (h : i < 104 + 4 * l ∨ 104 + 4 * l + 3 < i) : lr g l a b c v i = g i := by
  unfold lr; rw [if_neg (by omega), if_neg (by omega), if_neg (by omega), if_neg (by omega)]
theorem lr_0 {g : Nat → Int32} {l : Nat} {a b c v : Int32} : lr g l a b c v (104 + 4 * l) = a := if_pos rfl
theorem lr_1 {g : Nat → Int32} {l : Nat} {a b c v : Int32} : lr g l a b c v (104 + 4 * l + 1) = b := by
  unfold lr; rw [if_neg (by omega), if_pos rfl]
theorem lr_2 {g : Nat → Int32} {l : Nat} {a b c v : Int32} : lr g l a b c v (104 + 4 * l + 2) = c := by
  unfold lr; rw [if_neg (by omega), if_neg (by omega), if_pos rfl]
theorem lr_3 {g : Nat → Int32} {l : Nat} {a b c v : Int32} : lr g l a b c v (104 + 4 * l + 3) = v := by
  unfold lr; rw [if_neg (by omega), if_neg (by omega), if_neg (by omega), if_pos rfl]
def q1 (B : Nat → Nat) (t p : Nat) (h : Int32) : Nat × Nat × Nat := nm B t p 0 h (-1)
def q2 (B : Nat → Nat) (t p : Nat) (h : Int32) : Nat × Nat × Nat := nm B t (q1 B t p h).2.1 0 h (nI (q1 B t p h).2.2)
def ro3 (B : Nat → Nat) (t p : Nat) (h : Int32) : Nat × Nat × Nat := nm B t (q2 B t p h).2.1 1 9 (-1)
def ro4 (B : Nat → Nat) (t p : Nat) (h : Int32) : Nat × Nat × Nat := nm B t (ro3 B t p h).2.1 0 7 (-1)
def lo1 (B : Nat → Nat) (t p : Nat) : Nat × Nat × Nat := nm B t p 1 7 (-1)
def lo4 (B : Nat → Nat) (t p : Nat) (h : Int32) : Nat × Nat × Nat := nm B t (q2 B t (lo1 B t p).2.1 h).2.1 0 99 (-1)
def nPl (B : Nat → Nat) (t p : Nat) (s : NS) : Nat × Nat × NS := ((nm B t p 1 10 (-1)).1, (nm B t p 1 10 (-1)).2.1, ⟨(nm B t p 1 10 (-1)).2.2, s.n, s.C, s.m, up0 s.g (nI (nm B t p 1 10 (-1)).2.2)⟩)
def nRo (B : Nat → Nat) (t p : Nat) (s : NS) : Nat × Nat × NS := (ff (ff (ff (q1 B t p (s.g 0 - 1)).1 (q2 B t p (s.g 0 - 1)).1) (ro3 B t p (s.g 0 - 1)).1) (ro4 B t p (s.g 0 - 1)).1, (ro4 B t p (s.g 0 - 1)).2.1, ⟨s.P, s.n + 1, s.C, s.m, nr s.g s.n (nI (q1 B t p (s.g 0 - 1)).2.2) (nI (q2 B t p (s.g 0 - 1)).2.2) (nI (ro3 B t p (s.g 0 - 1)).2.2) (nI (ro4 B t p (s.g 0 - 1)).2.2)⟩)
def nCa (B : Nat → Nat) (t p : Nat) (s : NS) : Nat × Nat × NS := ((q1 B t p (s.g 0 - 1)).1, (q1 B t p (s.g 0 - 1)).2.1, ⟨s.P, s.n, s.C + 1, s.m, cr s.g s.C (nI (q1 B t p (s.g 0 - 1)).2.2)⟩)
def nLo (B : Nat → Nat) (t p : Nat) (s : NS) : Nat × Nat × NS := (ff (ff (ff (lo1 B t p).1 (q1 B t (lo1 B t p).2.1 (s.g 0 - 1)).1) (q2 B t (lo1 B t p).2.1 (s.g 0 - 1)).1) (lo4 B t p (s.g 0 - 1)).1, (lo4 B t p (s.g 0 - 1)).2.1, ⟨s.P, s.n, s.C, s.m + 1, lr s.g s.m (nI (lo1 B t p).2.2) (nI (q1 B t (lo1 B t p).2.1 (s.g 0 - 1)).2.2) (nI (q2 B t (lo1 B t p).2.1 (s.g 0 - 1)).2.2) (nI (lo4 B t p (s.g 0 - 1)).2.2)⟩)
/-- one clause from p: fault, where one is then, the state -/
def ncl (B : Nat → Nat) (t c p : Nat) (s : NS) : Nat × Nat × NS :=
  if isW B t (sk B t p) wPl = true then (if c = 0 then nPl B t (sk B t p + 6) s else (1 + 8 * sk B t p + 4, 0, s))
  else if isW B t (sk B t p) wRo = true then (if 0 < c ∧ c < 40 ∧ s.n < 16 then nRo B t (sk B t p + 4) s else (1 + 8 * sk B t p + 4, 0, s))
  else if isW B t (sk B t p) wCa = true then (if 0 < c ∧ c < 40 ∧ s.C < 4 then nCa B t (sk B t p + 6) s else (1 + 8 * sk B t p + 4, 0, s))
  else if isW B t (sk B t p) wLo = true then (if 0 < c ∧ c < 40 ∧ s.m < 8 then nLo B t (sk B t p + 4) s else (1 + 8 * sk B t p + 4, 0, s))
  else (1 + 8 * sk B t p, 0, s)
def ntL (B : Nat → Nat) (t : Nat) : Nat → Nat → Nat → NS → Nat × NS
  | 0, _, _, s => (1, s)
  | F + 1, c, p, s => if ¬ (ncl B t c p s).1 = 0 then ((ncl B t c p s).1, s)
    else if pk B t (ncl B t c p s).2.1 = -1 then (0, (ncl B t c p s).2.2)
    else if pk B t (ncl B t c p s).2.1 = 59 then ntL B t F (c + 1) (sk B t (ncl B t c p s).2.1 + 1) (ncl B t c p s).2.2
    else (1 + 8 * sk B t (ncl B t c p s).2.1, s)
theorem isW_le {B : Nat → Nat} {t q : Nat} {w : List Nat} (hq : q ≤ t) (h : isW B t q w = true) : q + w.length ≤ t := by
  have h1 := (of_decide_eq_true h).1
  rcases Nat.eq_zero_or_pos w.length with z | z
  · omega
  · have := (h1 (w.length - 1) (by omega)).1; omega
theorem nm_q {B : Nat → Nat} {t p : Nat} {lo hi un : Int32} (hB : ∀ i, i < t → B i < 256) (ht : t ≤ 400) (h : p ≤ t) : (nm B t p lo hi un).2.1 ≤ t ∧ (nm B t p lo hi un).2.2 < 100000 ∧ (nm B t p lo hi un).1 < 4000 := by
  rcases nm_p (lo := lo) (hi := hi) (un := un) hB h with z | z
  · exact ⟨z.2.1, z.2.2.1, z.2.2.2⟩
  · omega
theorem ff_0 {e x : Nat} : ff e x = 0 ↔ e = 0 ∧ x = 0 := by
  unfold ff; split <;> omega
theorem ff_lt {e x k : Nat} (h1 : e < k) (h2 : x < k) : ff e x < k := by
  unfold ff; split <;> omega
theorem ff0 {x : Nat} : ff 0 x = x := rfl
theorem ncl_40 {B : Nat → Nat} {t c p : Nat} {s : NS} (h : (ncl B t c p s).1 = 0) : c < 40 := by
  unfold ncl at h
  split at h
  · split at h
    · omega
    · exact absurd (show 1 + 8 * sk B t p + 4 = 0 from h) (by omega)
  · split at h
    · split at h
      · rename_i z; exact z.2.1
      · exact absurd (show 1 + 8 * sk B t p + 4 = 0 from h) (by omega)
    · split at h
      · split at h
        · rename_i z; exact z.2.1
        · exact absurd (show 1 + 8 * sk B t p + 4 = 0 from h) (by omega)
      · split at h
        · split at h
          · rename_i z; exact z.2.1
          · exact absurd (show 1 + 8 * sk B t p + 4 = 0 from h) (by omega)
        · exact absurd (show 1 + 8 * sk B t p = 0 from h) (by omega)
theorem q1_q {B : Nat → Nat} {t p : Nat} {h : Int32} (hB : ∀ i, i < t → B i < 256) (ht : t ≤ 400) (hp : p ≤ t) : (q1 B t p h).2.1 ≤ t ∧ (q1 B t p h).2.2 < 100000 ∧ (q1 B t p h).1 < 4000 := nm_q hB ht hp
theorem q2_q {B : Nat → Nat} {t p : Nat} {h : Int32} (hB : ∀ i, i < t → B i < 256) (ht : t ≤ 400) (hp : p ≤ t) : (q2 B t p h).2.1 ≤ t ∧ (q2 B t p h).2.2 < 100000 ∧ (q2 B t p h).1 < 4000 := nm_q hB ht (q1_q hB ht hp).1
theorem ro3_q {B : Nat → Nat} {t p : Nat} {h : Int32} (hB : ∀ i, i < t → B i < 256) (ht : t ≤ 400) (hp : p ≤ t) : (ro3 B t p h).2.1 ≤ t ∧ (ro3 B t p h).2.2 < 100000 ∧ (ro3 B t p h).1 < 4000 := nm_q hB ht (q2_q hB ht hp).1
theorem ro4_q {B : Nat → Nat} {t p : Nat} {h : Int32} (hB : ∀ i, i < t → B i < 256) (ht : t ≤ 400) (hp : p ≤ t) : (ro4 B t p h).2.1 ≤ t ∧ (ro4 B t p h).2.2 < 100000 ∧ (ro4 B t p h).1 < 4000 := nm_q hB ht (ro3_q hB ht hp).1
theorem lo1_q {B : Nat → Nat} {t p : Nat} (hB : ∀ i, i < t → B i < 256) (ht : t ≤ 400) (hp : p ≤ t) : (lo1 B t p).2.1 ≤ t ∧ (lo1 B t p).2.2 < 100000 ∧ (lo1 B t p).1 < 4000 := nm_q hB ht hp
theorem lo4_q {B : Nat → Nat} {t p : Nat} {h : Int32} (hB : ∀ i, i < t → B i < 256) (ht : t ≤ 400) (hp : p ≤ t) : (lo4 B t p h).2.1 ≤ t ∧ (lo4 B t p h).2.2 < 100000 ∧ (lo4 B t p h).1 < 4000 := nm_q hB ht (q2_q hB ht (lo1_q hB ht hp).1).1
theorem ncl_le {B : Nat → Nat} {t c p : Nat} {s : NS} (hB : ∀ i, i < t → B i < 256) (ht : t ≤ 400) (hp : p ≤ t) : (ncl B t c p s).2.1 ≤ t ∧ (ncl B t c p s).1 < 4000 := by
  have hs := sk_le (B := B) hp
  unfold ncl
  split
  · rename_i hw
    have := isW_le hs.2 hw
    have hq : sk B t p + 6 ≤ t := this
    split
    · exact ⟨(nm_q hB ht hq).1, (nm_q hB ht hq).2.2⟩
    · exact ⟨Nat.zero_le _, by show 1 + 8 * sk B t p + 4 < 4000; omega⟩
  · split
    · rename_i hw
      have := isW_le hs.2 hw
      have hq : sk B t p + 4 ≤ t := this
      split
      · exact ⟨(ro4_q hB ht hq).1, ff_lt (ff_lt (ff_lt (q1_q hB ht hq).2.2 (q2_q hB ht hq).2.2) (ro3_q hB ht hq).2.2) (ro4_q hB ht hq).2.2⟩
      · exact ⟨Nat.zero_le _, by show 1 + 8 * sk B t p + 4 < 4000; omega⟩
    · split
      · rename_i hw
        have := isW_le hs.2 hw
        have hq : sk B t p + 6 ≤ t := this
        split
        · exact ⟨(q1_q hB ht hq).1, (q1_q hB ht hq).2.2⟩
        · exact ⟨Nat.zero_le _, by show 1 + 8 * sk B t p + 4 < 4000; omega⟩
      · split
        · rename_i hw
          have := isW_le hs.2 hw
          have hq : sk B t p + 4 ≤ t := this
          split
          · exact ⟨(lo4_q hB ht hq).1, ff_lt (ff_lt (ff_lt (lo1_q hB ht hq).2.2 (q1_q hB ht (lo1_q hB ht hq).1).2.2) (q2_q hB ht (lo1_q hB ht hq).1).2.2) (lo4_q hB ht hq).2.2⟩
          · exact ⟨Nat.zero_le _, by show 1 + 8 * sk B t p + 4 < 4000; omega⟩
        · exact ⟨Nat.zero_le _, by show 1 + 8 * sk B t p < 4000; omega⟩
