/-! ===== rule: how it is read ===== -/
def wds : List (List Nat) := [[114, 111, 97, 100], [100, 97, 121, 115], [108, 97, 115, 116], [107, 105, 110, 100], [102, 114, 111, 109], [116, 111], [114, 117, 110, 115], [97, 108, 108], [100, 97, 121]]
def wBar : List Nat := [98, 97, 114]
def wWip : List Nat := [119, 105, 112, 101]
def wNot : List Nat := [110, 111, 116]
def wAnd : List Nat := [97, 110, 100]
def wOr : List Nat := [111, 114]
def wIx (B : Nat → Nat) (t q : Nat) : List (List Nat) → Nat → Option (Nat × Nat)
  | [], _ => none
  | w :: ws, i => if isW B t q w = true then some (i, w.length) else wIx B t q ws (i + 1)
/-- what one more value costs -/
def mk3 (v q : Nat) : Nat := if v < 60 then 0 else 1 + 8 * q + 3
abbrev Res : Type := Nat × Nat × Nat × List Nat
abbrev FT : Type := Nat → Nat → Res
def bad (e : Nat) : Res := (e, 0, 0, [])
def bnd (r : Res) (f : Nat → Nat → List Nat → Res) : Res := if r.1 = 0 then f r.2.1 r.2.2.1 r.2.2.2 else bad r.1
def valP (B : Nat → Nat) (t p v : Nat) : Nat × Nat × Nat × Nat :=
  if sk B t p < t ∧ isD B (sk B t p) = true then (ff (nm B t p 0 99999 (-1)).1 (mk3 v (sk B t p)), (nm B t p 0 99999 (-1)).2.1, v + 1, 16 * (nm B t p 0 99999 (-1)).2.2)
  else (match wIx B t (sk B t p) wds 0 with
    | none => (1 + 8 * sk B t p, 0, 0, 0)
    | some (i, l) => (mk3 v (sk B t p), sk B t p + l, v + 1, 1 + 16 * i))
def wl (w : Nat) : List Nat := if w = 0 then [] else [w]
def sumL (B : Nat → Nat) (t : Nat) : Nat → Nat → Nat → Nat → List Nat → Res
  | 0, _, _, _, _ => bad 1
  | F + 1, p, v, w, o =>
    if pk B t p = 43 ∨ pk B t p = 45 then
      (if (valP B t (sk B t p + 1) v).1 = 0 then sumL B t F (valP B t (sk B t p + 1) v).2.1 (valP B t (sk B t p + 1) v).2.2.1 (if pk B t p = 43 then 2 else 3) (o ++ wl w ++ [(valP B t (sk B t p + 1) v).2.2.2]) else bad (valP B t (sk B t p + 1) v).1)
    else if pk B t p = 42 ∨ pk B t p = 47 then
      (if (valP B t (sk B t p + 1) v).1 = 0 then sumL B t F (valP B t (sk B t p + 1) v).2.1 (valP B t (sk B t p + 1) v).2.2.1 w (o ++ [(valP B t (sk B t p + 1) v).2.2.2, if pk B t p = 42 then 4 else 5]) else bad (valP B t (sk B t p + 1) v).1)
    else (0, sk B t p, v, o ++ wl w)
def sumP (B : Nat → Nat) (t p v : Nat) : Res := if (valP B t p v).1 = 0 then sumL B t 401 (valP B t p v).2.1 (valP B t p v).2.2.1 0 [(valP B t p v).2.2.2] else bad (valP B t p v).1
def eqs (B : Nat → Nat) (t q : Nat) : Bool := decide (q + 1 < t ∧ B (q + 1) = 61)
def sgnP (B : Nat → Nat) (t p v : Nat) : Nat × Nat × Nat × Nat :=
  if pk B t p = 60 then (mk3 v (sk B t p), if eqs B t (sk B t p) = true then sk B t p + 2 else sk B t p + 1, v + 1, if eqs B t (sk B t p) = true then 7 else 6)
  else if pk B t p = 61 then (mk3 v (sk B t p), sk B t p + 1, v + 1, 8)
  else if pk B t p = 62 then (mk3 v (sk B t p), if eqs B t (sk B t p) = true then sk B t p + 2 else sk B t p + 1, v + 1, if eqs B t (sk B t p) = true then 9 else 10)
  else (1 + 8 * sk B t p, 0, 0, 0)
def cmpP (B : Nat → Nat) (t p v : Nat) : Res :=
  bnd (sumP B t p v) fun p1 v1 o1 => if (sgnP B t p1 v1).1 = 0 then bnd (sumP B t (sgnP B t p1 v1).2.1 (sgnP B t p1 v1).2.2.1) (fun p2 v2 o2 => (0, p2, v2, o1 ++ o2 ++ [(sgnP B t p1 v1).2.2.2])) else bad (sgnP B t p1 v1).1
def o13 (b : Bool) : List Nat := if b = true then [13] else []
def tstL (B : Nat → Nat) (t : Nat) (fact : FT) : Nat → Bool → Nat → Nat → List Nat → Res
  | 0, _, _, _, _ => bad 1
  | F + 1, b, p, v, o =>
    if isW B t (sk B t p) wAnd = true then bnd (fact (sk B t p + 3) v) (fun p1 v1 o1 => tstL B t fact F b p1 v1 (o ++ o1 ++ [12]))
    else if isW B t (sk B t p) wOr = true then bnd (fact (sk B t p + 2) v) (fun p1 v1 o1 => tstL B t fact F true p1 v1 (o ++ o13 b ++ o1))
    else (0, sk B t p, v, o ++ o13 b)
def testF (B : Nat → Nat) (t : Nat) (fact : FT) (p v : Nat) : Res := bnd (fact p v) fun p1 v1 o1 => tstL B t fact 401 false p1 v1 o1
def stpF (B : Nat → Nat) (t : Nat) (inner : Option FT) (p v : Nat) : Res :=
  if isW B t (sk B t p) wNot = true then (match inner with
    | none => bad (1 + 8 * sk B t p + 2)
    | some f => bnd (f (sk B t p + 3) v) (fun p1 v1 o1 => (0, p1, v1, o1 ++ [11])))
  else if pk B t p = 91 then (match inner with
    | none => bad (1 + 8 * sk B t p + 2)
    | some f => bnd (testF B t f (sk B t p + 1) v) (fun p1 v1 o1 => if pk B t p1 = 93 then (0, sk B t p1 + 1, v1, o1) else bad (1 + 8 * sk B t p1)))
  else cmpP B t (sk B t p) v
def factP (B : Nat → Nat) (t : Nat) : Nat → FT
  | 0 => stpF B t none
  | k + 1 => stpF B t (some (factP B t k))
/-- a good outcome: where it ends, how many tokens, how many values, of what kind -/
def gd (t : Nat) (ty : Bool) (p v : Nat) (r : Res) : Prop := r.1 < 4000 ∧ (r.1 = 0 → p < r.2.1 ∧ r.2.1 ≤ t ∧ r.2.2.2.length + p ≤ r.2.1 ∧ v + cntV r.2.2.2 ≤ r.2.2.1 ∧ r.2.2.1 ≤ 60 ∧ ∀ bs, tyA r.2.2.2 bs = some (ty :: bs))
theorem gd_bad {t p v e : Nat} {ty : Bool} (h : e < 4000) (h0 : ¬ e = 0) : gd t ty p v (bad e) := ⟨h, fun z => absurd z h0⟩
theorem nmL_ge {B : Nat → Nat} {t q : Nat} : ∀ k p v, p ≤ (nmL B t q k p v).1 := by
  intro k
  induction k with
  | zero => intro p v; exact Nat.le_refl _
  | succ k ih =>
    intro p v
    rw [nmL]
    split
    · exact Nat.le_trans (Nat.le_succ p) (ih _ _)
    · exact Nat.le_refl _
theorem nm_gt {B : Nat → Nat} {t p : Nat} {lo hi un : Int32} (z : sk B t p < t ∧ isD B (sk B t p) = true) : sk B t p < (nm B t p lo hi un).2.1 := by
  unfold nm
  rw [if_pos z]
  show sk B t p < (nmL B t (sk B t p) (400 + 1) (sk B t p) 0).1
  rw [nmL, if_pos z]
  exact nmL_ge _ _ _
theorem wIx_p {B : Nat → Nat} {t q : Nat} (hq : q ≤ t) : ∀ (ws : List (List Nat)) (j i l : Nat), (∀ w ∈ ws, 0 < w.length) → wIx B t q ws j = some (i, l) → 0 < l ∧ q + l ≤ t ∧ j ≤ i ∧ i < j + ws.length := by
  intro ws
  induction ws with
  | nil => intro j i l _ h; exact absurd h (by simp [wIx])
  | cons w ws ih =>
    intro j i l hw h
    rw [wIx] at h
    split at h
    · rename_i z
      injection h with h; injection h with h1 h2
      subst h1 h2
      exact ⟨hw w (by simp), isW_le hq z, Nat.le_refl _, by simp⟩
    · obtain ⟨a, b, c, d⟩ := ih (j + 1) i l (fun w h => hw w (by simp [h])) h
      exact ⟨a, b, by omega, by simp; omega⟩
theorem valP_g {B : Nat → Nat} {t p v : Nat} (hB : ∀ i, i < t → B i < 256) (ht : t ≤ 400) (hp : p ≤ t) : (valP B t p v).1 < 4000 ∧ ((valP B t p v).1 = 0 → p < (valP B t p v).2.1 ∧ (valP B t p v).2.1 ≤ t ∧ (valP B t p v).2.2.1 = v + 1 ∧ v + 1 ≤ 60 ∧ ∀ bs, ty1 (valP B t p v).2.2.2 bs = some (false :: bs)) := by
  have hs := sk_le (B := B) hp
  have hm : mk3 v (sk B t p) < 4000 := by unfold mk3; split <;> omega
  have hm0 : mk3 v (sk B t p) = 0 → v < 60 := by unfold mk3; split <;> omega
  unfold valP
  by_cases z : sk B t p < t ∧ isD B (sk B t p) = true
  · rw [if_pos z]
    have a := nm_q (lo := 0) (hi := 99999) (un := -1) hB ht hp
    have b := nm_gt (lo := 0) (hi := 99999) (un := -1) z
    refine ⟨ff_lt a.2.2 hm, fun h => ?_⟩
    have h := ff_0.mp h
    refine ⟨by show p < (nm B t p 0 99999 (-1)).2.1; omega, a.1, rfl, by have := hm0 h.2; omega, fun bs => ?_⟩
    show ty1 (16 * (nm B t p 0 99999 (-1)).2.2) bs = _
    unfold ty1
    rw [if_pos (by omega), if_pos (by omega)]
  · rw [if_neg z]
    split
    · exact ⟨by show 1 + 8 * sk B t p < 4000; omega, fun h => absurd (show 1 + 8 * sk B t p = 0 from h) (by omega)⟩
    · rename_i i l h
      have a := wIx_p hs.2 wds 0 i l (by decide) h
      refine ⟨hm, fun h => ⟨by show p < sk B t p + l; omega, a.2.1, rfl, by have := hm0 h; omega, fun bs => ?_⟩⟩
      show ty1 (1 + 16 * i) bs = _
      have h9 : i < 0 + 9 := a.2.2.2
      unfold ty1
      rw [if_neg (by omega), if_pos (by omega), if_pos (by omega)]
