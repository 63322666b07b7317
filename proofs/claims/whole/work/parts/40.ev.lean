/-! ===== rules: what their codes are worth ===== -/
theorem ltI {x y : Int32} {a b : Nat} (hx : x = nI a) (hy : y = nI b) (h : a < b) (hb : b < 2 ^ 31) : x < y := by
  subst hx hy; exact nI_lt h hb
theorem nltI {x y : Int32} {a b : Nat} (hx : x = nI a) (hy : y = nI b) (h : b ≤ a) (ha : a < 2 ^ 31) : ¬ x < y := by
  subst hx hy; exact nI_nlt h ha
theorem neI {x y : Int32} {a b : Nat} (hx : x = nI a) (hy : y = nI b) (h : a ≠ b) (ha : a < 2 ^ 31) (hb : b < 2 ^ 31) : ¬ x = y := by
  subst hx hy; exact fun z => h ((nI_eq ha hb).mp z)
theorem nltI0 {x : Int32} {a : Nat} (hx : x = nI a) (ha : a < 2 ^ 31) : ¬ x < 0 := by
  subst hx; exact nI_pos ha
/-- a row of numbers stands in a cell from b on -/
def segAt (F : Nat → Int32) : Nat → List Nat → Prop
  | _, [] => True
  | b, t :: ts => F b = nI t ∧ segAt F (b + 1) ts
theorem segAt_app {F : Nat → Int32} : ∀ {x y : List Nat} {b : Nat}, segAt F b (x ++ y) ↔ segAt F b x ∧ segAt F (b + x.length) y
  | [], y, b => by simp [segAt]
  | t :: x, y, b => by
    have e : b + 1 + x.length = b + (t :: x).length := by simp; omega
    show (F b = nI t ∧ segAt F (b + 1) (x ++ y)) ↔ (F b = nI t ∧ segAt F (b + 1) x) ∧ _
    rw [segAt_app (x := x) (y := y) (b := b + 1), e]
    exact and_assoc.symm
theorem segAt_congr {F F' : Nat → Int32} : ∀ {l : List Nat} {b : Nat}, (∀ i, b ≤ i → i < b + l.length → F' i = F i) → segAt F b l → segAt F' b l
  | [], _, _, _ => trivial
  | t :: l, b, h, hs => ⟨(h b (Nat.le_refl _) (by simp)).trans hs.1, segAt_congr (l := l) (fun i h1 h2 => h i (by omega) (by simp; omega)) hs.2⟩
def tkC (t : Nat) : Nat := if t % 16 = 0 then t / 16 else if t % 16 = 1 then 100000 + t / 16 else if t % 16 = 11 then 100020 else if t % 16 = 12 then 100018 else if t % 16 = 13 then 100019 else 100007 + t % 16
def ev1 (w : Nat → Int64) (t : Nat) (st : List Int64) : List Int64 :=
  if t % 16 = 0 then lN (t / 16) :: st else if t % 16 = 1 then w (t / 16) :: st else if t % 16 = 11 then (match st with
    | x :: s => (1 - x) :: s
    | [] => []) else (match st with
    | y :: x :: s => opM (nI (t % 16)) x y :: s
    | s => s)
def ev (w : Nat → Int64) : List Nat → List Int64 → List Int64
  | [], st => st
  | t :: ts, st => ev w ts (ev1 w t st)
def ty1 (t : Nat) (bs : List Bool) : Option (List Bool) :=
  if t % 16 = 0 then (if t / 16 < 100000 then some (false :: bs) else none)
  else if t % 16 = 1 then (if t / 16 < 9 then some (false :: bs) else none)
  else if t = 11 then (match bs with
    | true :: s => some (true :: s)
    | _ => none)
  else if t = 12 ∨ t = 13 then (match bs with
    | true :: true :: s => some (true :: s)
    | _ => none)
  else if t ≤ 5 then (match bs with
    | false :: false :: s => some (false :: s)
    | _ => none)
  else if t ≤ 10 then (match bs with
    | false :: false :: s => some (true :: s)
    | _ => none) else none
def tyA : List Nat → List Bool → Option (List Bool)
  | [], bs => some bs
  | t :: ts, bs => (ty1 t bs).bind (tyA ts)
theorem tyA_app : ∀ (x y : List Nat) (bs : List Bool), tyA (x ++ y) bs = (tyA x bs).bind (tyA y)
  | [], _, _ => rfl
  | t :: x, y, bs => by
    show (ty1 t bs).bind (tyA (x ++ y)) = ((ty1 t bs).bind (tyA x)).bind (tyA y)
    cases ty1 t bs with
    | none => rfl
    | some s => exact tyA_app x y s
def cntV : List Nat → Nat
  | [] => 0
  | t :: ts => (if t % 16 ≤ 1 then 1 else 0) + cntV ts
theorem cntV_app : ∀ (x y : List Nat), cntV (x ++ y) = cntV x + cntV y
  | [], y => by simp [cntV]
  | t :: x, y => by
    show (if t % 16 ≤ 1 then 1 else 0) + cntV (x ++ y) = (if t % 16 ≤ 1 then 1 else 0) + cntV x + cntV y
    rw [cntV_app x y]; omega
theorem ty1_cases {t : Nat} {bs bs' : List Bool} (h : ty1 t bs = some bs') :
    (t % 16 = 0 ∧ t / 16 < 100000 ∧ bs' = false :: bs) ∨ (t % 16 = 1 ∧ t / 16 < 9 ∧ bs' = false :: bs) ∨ (t = 11 ∧ ∃ s, bs = true :: s ∧ bs' = true :: s) ∨
    (t < 14 ∧ 2 ≤ t % 16 ∧ t % 16 ≤ 13 ∧ t % 16 ≠ 11 ∧ ∃ b c s, bs = b :: b :: s ∧ bs' = c :: s ∧ (c = true → (6 ≤ t % 16 ∧ t % 16 ≤ 10) ∨ (b = true ∧ (t % 16 = 12 ∨ t % 16 = 13)))) := by
  unfold ty1 at h
  split at h
  · split at h
    · exact Or.inl ⟨by assumption, by assumption, (Option.some.inj h).symm⟩
    · exact absurd h (by simp)
  · split at h
    · split at h
      · exact Or.inr (Or.inl ⟨by assumption, by assumption, (Option.some.inj h).symm⟩)
      · exact absurd h (by simp)
    · split at h
      · split at h
        · exact Or.inr (Or.inr (Or.inl ⟨by assumption, _, rfl, (Option.some.inj h).symm⟩))
        · exact absurd h (by simp)
      · split at h
        · split at h
          · exact Or.inr (Or.inr (Or.inr ⟨by omega, by omega, by omega, by omega, _, _, _, rfl, (Option.some.inj h).symm, fun _ => Or.inr ⟨rfl, by omega⟩⟩))
          · exact absurd h (by simp)
        · split at h
          · split at h
            · exact Or.inr (Or.inr (Or.inr ⟨by omega, by omega, by omega, by omega, _, _, _, rfl, (Option.some.inj h).symm, fun z => absurd z (by decide)⟩))
            · exact absurd h (by simp)
          · split at h
            · split at h
              · exact Or.inr (Or.inr (Or.inr ⟨by omega, by omega, by omega, by omega, _, _, _, rfl, (Option.some.inj h).symm, fun _ => Or.inl ⟨by omega, by omega⟩⟩))
              · exact absurd h (by simp)
            · exact absurd h (by simp)
theorem ty1_len {t : Nat} {bs bs' : List Bool} (h : ty1 t bs = some bs') : bs'.length ≤ bs.length + (if t % 16 ≤ 1 then 1 else 0) := by
  rcases ty1_cases h with ⟨a, _, e⟩ | ⟨a, _, e⟩ | ⟨a, s, e1, e2⟩ | ⟨a0, a, _, _, b, c, s, e1, e2, _⟩
  · subst e; rw [if_pos (by omega)]; simp
  · subst e; rw [if_pos (by omega)]; simp
  · subst e1 e2; simp
  · subst e1 e2; simp; omega
/-- numbers of tests are 0 or 1 -/
def tyS : List Bool → List Int64 → Prop
  | [], [] => True
  | b :: bs, x :: xs => (b = true → x = 0 ∨ x = 1) ∧ tyS bs xs
  | _, _ => False
theorem tyS_len : ∀ {bs : List Bool} {st : List Int64}, tyS bs st → bs.length = st.length
  | [], [], _ => rfl
  | _ :: bs, _ :: st, h => by
    have := tyS_len h.2
    simp [this]
  | [], _ :: _, h => absurd h id
  | _ :: _, [], h => absurd h id
theorem opM_01 {s : Nat} (x y : Int64) (h : 6 ≤ s ∧ s ≤ 10) : opM (nI s) x y = 0 ∨ opM (nI s) x y = 1 := by
  rcases (by omega : s = 6 ∨ s = 7 ∨ s = 8 ∨ s = 9 ∨ s = 10) with rfl | rfl | rfl | rfl | rfl
  · show (if x < y then (1 : Int64) else 0) = 0 ∨ (if x < y then (1 : Int64) else 0) = 1
    split; exact Or.inr rfl; exact Or.inl rfl
  · show (if y < x then (0 : Int64) else 1) = 0 ∨ (if y < x then (0 : Int64) else 1) = 1
    split; exact Or.inl rfl; exact Or.inr rfl
  · show (if x = y then (1 : Int64) else 0) = 0 ∨ (if x = y then (1 : Int64) else 0) = 1
    split; exact Or.inr rfl; exact Or.inl rfl
  · show (if x < y then (0 : Int64) else 1) = 0 ∨ (if x < y then (0 : Int64) else 1) = 1
    split; exact Or.inl rfl; exact Or.inr rfl
  · show (if y < x then (1 : Int64) else 0) = 0 ∨ (if y < x then (1 : Int64) else 0) = 1
    split; exact Or.inr rfl; exact Or.inl rfl
theorem opM_ao {s : Nat} {x y : Int64} (h : s = 12 ∨ s = 13) (hx : x = 0 ∨ x = 1) (hy : y = 0 ∨ y = 1) : opM (nI s) x y = 0 ∨ opM (nI s) x y = 1 := by
  rcases h with rfl | rfl <;> rcases hx with rfl | rfl <;> rcases hy with rfl | rfl <;> decide
theorem opCM {s : Nat} (l r : Int64) (h : 2 ≤ s ∧ s ≤ 10) : opC (nI (100007 + s)) l r = opM (nI s) l r := by
  rcases (by omega : s = 2 ∨ s = 3 ∨ s = 4 ∨ s = 5 ∨ s = 6 ∨ s = 7 ∨ s = 8 ∨ s = 9 ∨ s = 10) with rfl | rfl | rfl | rfl | rfl | rfl | rfl | rfl | rfl <;> rfl
theorem opCM12 (l r : Int64) : opC 100018 l r = opM 12 l r := rfl
theorem opCM13 (l r : Int64) : opC 100019 l r = opM 13 l r := rfl
theorem ev1_ty {w : Nat → Int64} {t : Nat} {bs bs' : List Bool} {st : List Int64} (h : ty1 t bs = some bs') (hs : tyS bs st) : tyS bs' (ev1 w t st) := by
  unfold ev1
  rcases ty1_cases h with ⟨a, _, e⟩ | ⟨a, _, e⟩ | ⟨a, s, e1, e2⟩ | ⟨a0, a, a2, a3, b, c, s, e1, e2, a4⟩
  · subst e; rw [if_pos a]; exact ⟨fun z => absurd z (by decide), hs⟩
  · subst e; rw [if_neg (by omega), if_pos a]; exact ⟨fun z => absurd z (by decide), hs⟩
  · subst e1 e2
    rw [if_neg (by omega), if_neg (by omega), if_pos (by omega)]
    match st, hs with
    | x :: st, hs => exact ⟨fun _ => by rcases hs.1 rfl with e | e <;> subst e <;> decide, hs.2⟩
  · subst e1 e2
    rw [if_neg (by omega), if_neg (by omega), if_neg (by omega)]
    match st, hs with
    | y :: x :: st, hs =>
      refine ⟨fun z => ?_, hs.2.2⟩
      rcases a4 z with a4 | ⟨a4, a5⟩
      · exact opM_01 _ _ a4
      · exact opM_ao a5 (hs.2.1 a4) (hs.1 a4)
theorem ev_ty {w : Nat → Int64} : ∀ {ts : List Nat} {bs bs' : List Bool} {st : List Int64}, tyA ts bs = some bs' → tyS bs st → tyS bs' (ev w ts st)
  | [], bs, bs', st, h, hs => by cases (Option.some.inj h); exact hs
  | t :: ts, bs, bs', st, h, hs => by
    have h : (ty1 t bs).bind (tyA ts) = some bs' := h
    cases e : ty1 t bs with
    | none => rw [e] at h; exact absurd h (by simp)
    | some b1 => rw [e] at h; exact ev_ty (ts := ts) h (ev1_ty e hs)
theorem ev1_w {w w' : Nat → Int64} {t : Nat} {bs bs' : List Bool} {st : List Int64} (h : ty1 t bs = some bs') (hw : ∀ k, k < 9 → w k = w' k) : ev1 w t st = ev1 w' t st := by
  unfold ev1
  rcases ty1_cases h with ⟨a, _, e⟩ | ⟨a, b, e⟩ | ⟨a, s, e1, e2⟩ | ⟨a0, a, a2, a3, b, c, s, e1, e2, a4⟩
  · rw [if_pos a, if_pos a]
  · have n0 : ¬ t % 16 = 0 := by omega
    rw [if_neg n0, if_neg n0, if_pos a, if_pos a, hw _ b]
  · have n0 : ¬ t % 16 = 0 := by omega
    have n1 : ¬ t % 16 = 1 := by omega
    rw [if_neg n0, if_neg n0, if_neg n1, if_neg n1]
  · have n0 : ¬ t % 16 = 0 := by omega
    have n1 : ¬ t % 16 = 1 := by omega
    rw [if_neg n0, if_neg n0, if_neg n1, if_neg n1]
theorem ev_w {w w' : Nat → Int64} (hw : ∀ k, k < 9 → w k = w' k) : ∀ {ts : List Nat} {bs bs' : List Bool} {st : List Int64}, tyA ts bs = some bs' → ev w ts st = ev w' ts st
  | [], _, _, _, _ => rfl
  | t :: ts, bs, bs', st, h => by
    have h : (ty1 t bs).bind (tyA ts) = some bs' := h
    cases e : ty1 t bs with
    | none => rw [e] at h; exact absurd h (by simp)
    | some b1 =>
      rw [e] at h
      show ev w ts (ev1 w t st) = ev w' ts (ev1 w' t st)
      rw [ev1_w e hw]
      exact ev_w hw (ts := ts) h
/-- a stack in a cell of longs, the top first -/
def stR (M : Nat → Int64) : List Int64 → Prop
  | [] => True
  | x :: s => M s.length = x ∧ stR M s
theorem stR_set {M M' : Nat → Int64} : ∀ {s : List Int64}, (∀ i, i < s.length → M' i = M i) → stR M s → stR M' s
  | [], _, _ => trivial
  | _ :: s, h, hs => ⟨(h s.length (by simp)).trans hs.1, stR_set (s := s) (fun i hi => h i (by simp; omega)) hs.2⟩
theorem stR_u {L : am_L} {a : Nat} {s : List Int64} {v : Int64} {k : Nat} (hk : s.length ≤ k) (h : stR (L a) s) : stR (am_u L a k v a) s :=
  stR_set (fun i hi => am_u_nk (by omega)) h
theorem ty1_lt {t : Nat} {bs bs' : List Bool} (h : ty1 t bs = some bs') : t < 1600016 := by
  rcases ty1_cases h with ⟨a, b, e⟩ | ⟨a, b, e⟩ | ⟨a, s, e1, e2⟩ | ⟨a0, a, a2, a3, b, c, s, e1, e2, a4⟩ <;> omega
