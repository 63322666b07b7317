/-! ===== orders: what they are ===== -/
section ODP
variable (Rs : List (List (Nat × List Nat))) (n : Nat) (W : Nat → Nat)
/-- one load more goes, if it can: bits of those that were asked, the roads, worth, how many went -/
def odS (st : Nat × (Nat → Int32) × Nat × Nat) (i : Nat) : Nat × (Nat → Int32) × Nat × Nat :=
  if pD Rs st.2.1 n (st.2.1 (104 + 4 * W i)) (lG st.2.1 (W i)) (lP st.2.1 (W i)) < 1000000 then (st.1 ||| 2 ^ i, pG Rs st.2.1 n (st.2.1 (104 + 4 * W i)) (lG st.2.1 (W i)) (lP st.2.1 (W i)), st.2.2.1 + lW st.2.1 (W i), st.2.2.2 + 1)
  else (st.1 ||| 2 ^ i, st.2.1, st.2.2.1, st.2.2.2)
def odT (f : Nat → Int32) (ds : List Nat) : Nat × (Nat → Int32) × Nat × Nat := ds.foldl (odS Rs n W) (0, f, 0, 0)
end ODP
def odL (T : Nat × (Nat → Int32) × Nat × Nat) (ds : List Nat) (b : Nat × Nat × List Nat) : Nat × Nat × List Nat := if b.1 < T.2.2.1 + 1 then (T.2.2.1 + 1, T.2.2.2, ds) else b
def odF {β : Type} (g : Nat → β → β) : Nat → Nat → β → β
  | 0, _, b => b
  | q + 1, i, b => odF g q (i + 1) (g i b)
def odD (T : List Nat → Nat × (Nat → Int32) × Nat × Nat) (s : Nat) : Nat → List Nat → Nat × Nat × List Nat → Nat × Nat × List Nat
  | 0, ds, b => odL (T ds) ds b
  | k + 1, ds, b => odF (fun i b => if (T ds).1.testBit i = true then b else odD T s k (ds ++ [i]) b) s 0 b
def odA (T : List Nat → Nat × (Nat → Int32) × Nat × Nat) (s : Nat) : Nat → List Nat → Nat × Nat × List Nat → Nat × Nat × List Nat
  | 0, ds, b => if (T ds).1 = 2 ^ s - 1 then odL (T ds) ds b else b
  | k + 1, ds, b => odF (fun i b => odA T s k (ds ++ [i]) b) s 0 b
theorem odF_cg {β : Type} {g g' : Nat → β → β} : ∀ {q i : Nat} {b : β}, (∀ j, i ≤ j → j < i + q → ∀ b, g j b = g' j b) → odF g q i b = odF g' q i b
  | 0, _, _, _ => rfl
  | q + 1, i, b, h => by
    show odF g q (i + 1) (g i b) = odF g' q (i + 1) (g' i b)
    rw [h i (Nat.le_refl _) (by omega)]
    exact odF_cg (fun j h1 h2 => h j (by omega) (by omega))
theorem odF_id {β : Type} {g : Nat → β → β} {b : β} : ∀ {q i : Nat}, (∀ j, i ≤ j → j < i + q → g j b = b) → odF g q i b = b
  | 0, _, _ => rfl
  | q + 1, i, h => by
    show odF g q (i + 1) (g i b) = b
    rw [h i (Nat.le_refl _) (by omega)]
    exact odF_id (fun j h1 h2 => h j (by omega) (by omega))
def pop6 (x : Nat) : Nat := x % 2 + x / 2 % 2 + x / 4 % 2 + x / 8 % 2 + x / 16 % 2 + x / 32 % 2
theorem od_bits : ∀ x, x < 64 → ∀ i, i < 6 → (x.testBit i = true → x ||| 2 ^ i = x) ∧ (x.testBit i = false → pop6 (x ||| 2 ^ i) = pop6 x + 1) := by decide +kernel
theorem od_full : ∀ s, s < 7 → ∀ x, x < 64 → x < 2 ^ s → (pop6 x = s ↔ x = 2 ^ s - 1) := by decide +kernel
theorem od_pw : ∀ s, s < 7 → 2 ^ s ≤ 64 := by decide
theorem rb_0 : ∀ x, x < 256 → ∀ p, p < 8 → (((nI x >>> (nI p &&& 31)) &&& 1) = 0 ↔ x.testBit p = false) := by decide +kernel
section ODQ
variable {Rs : List (List (Nat × List Nat))} {n : Nat} {W : Nat → Nat} {f : Nat → Int32}
theorem odT_sn (ds : List Nat) (i : Nat) : odT Rs n W f (ds ++ [i]) = odS Rs n W (odT Rs n W f ds) i := by
  unfold odT; rw [List.foldl_append]; rfl
theorem odS_1 {st : Nat × (Nat → Int32) × Nat × Nat} {i : Nat} : (odS Rs n W st i).1 = st.1 ||| 2 ^ i := by
  unfold odS; split <;> rfl
/-- what holds of a state under way holds of all -/
theorem odT_ind {P : List Nat → Nat × (Nat → Int32) × Nat × Nat → Prop} (h0 : P [] (0, f, 0, 0)) (h1 : ∀ ds st i, P ds st → P (ds ++ [i]) (odS Rs n W st i)) (ds : List Nat) : P ds (odT Rs n W f ds) := by
  have key : ∀ (rs : List Nat), P rs.reverse (odT Rs n W f rs.reverse) := by
    intro rs
    induction rs with
    | nil => exact h0
    | cons i rs ih => rw [List.reverse_cons, odT_sn]; exact h1 _ _ i ih
  have := key ds.reverse
  rwa [List.reverse_reverse] at this
theorem odS_tal {st : Nat × (Nat → Int32) × Nat × Nat} {i : Nat} (hn : n ≤ 17) : tal st.2.1 (odS Rs n W st i).2.1 := by
  unfold odS
  split
  · exact tal_pG hn
  · exact tal.rf
theorem odT_tal (hn : n ≤ 17) (ds : List Nat) : tal f (odT Rs n W f ds).2.1 :=
  odT_ind (Rs := Rs) (n := n) (W := W) (f := f) (P := fun _ st => tal f st.2.1) tal.rf (fun _ _ _ h => h.tr (odS_tal hn)) ds
theorem tal_i {f f' : Nat → Int32} (h : tal f f') {i : Nat} (hi : 92 ≤ i) : f' i = f i := h i (by omega)
theorem tal_lW {f f' : Nat → Int32} (h : tal f f') (l : Nat) : lW f' l = lW f l := by unfold lW; rw [tal_i h (by omega)]
theorem tal_lG {f f' : Nat → Int32} (h : tal f f') (l : Nat) : lG f' l = lG f l := by unfold lG; rw [tal_i h (by omega)]
theorem tal_lP {f f' : Nat → Int32} (h : tal f f') (l : Nat) : lP f' l = lP f l := by unfold lP; rw [tal_i h (by omega)]
theorem odT_x {s : Nat} (hs : s < 7) : ∀ (ds : List Nat), (∀ i ∈ ds, i < s) → (odT Rs n W f ds).1 < 2 ^ s := by
  intro ds
  refine odT_ind (Rs := Rs) (n := n) (W := W) (f := f) (P := fun ds st => (∀ i ∈ ds, i < s) → st.1 < 2 ^ s) (fun _ => Nat.two_pow_pos s) (fun ds st i ih h => ?_) ds
  rw [odS_1]
  exact Nat.or_lt_two_pow (ih fun j hj => h j (List.mem_append_left _ hj)) (Nat.pow_lt_pow_right (by decide) (h i (by simp)))
theorem odA_lt {s : Nat} (hs : s < 7) (b : Nat × Nat × List Nat) : ∀ k ds, (∀ i ∈ ds, i < s) → pop6 (odT Rs n W f ds).1 + k < s → odA (odT Rs n W f) s k ds b = b
  | 0, ds, hd, h => by
    have hx := odT_x (Rs := Rs) (n := n) (W := W) (f := f) hs ds hd
    have hp := od_pw s hs
    unfold odA
    rw [if_neg (fun e => by have := (od_full s hs _ (by omega) hx).mpr e; omega)]
  | k + 1, ds, hd, h => by
    have hx := odT_x (Rs := Rs) (n := n) (W := W) (f := f) hs ds hd
    have hp := od_pw s hs
    unfold odA
    refine odF_id fun i _ hi => ?_
    refine odA_lt hs b k _ (fun j hj => ?_) ?_
    · rcases List.mem_append.mp hj with z | z
      · exact hd j z
      · rw [List.mem_singleton.mp z]; omega
    · rw [odT_sn, odS_1]
      have hb := od_bits _ (show (odT Rs n W f ds).1 < 64 by omega) i (by omega)
      cases e : (odT Rs n W f ds).1.testBit i with
      | true => rw [hb.1 e]; omega
      | false => rw [hb.2 e]; omega
theorem odA_eq {s : Nat} (hs : s < 7) : ∀ k ds b, (∀ i ∈ ds, i < s) → pop6 (odT Rs n W f ds).1 + k = s → odA (odT Rs n W f) s k ds b = odD (odT Rs n W f) s k ds b
  | 0, ds, b, hd, h => by
    have hx := odT_x (Rs := Rs) (n := n) (W := W) (f := f) hs ds hd
    have hp := od_pw s hs
    unfold odA odD
    rw [if_pos ((od_full s hs _ (by omega) hx).mp (by omega))]
  | k + 1, ds, b, hd, h => by
    have hx := odT_x (Rs := Rs) (n := n) (W := W) (f := f) hs ds hd
    have hp := od_pw s hs
    unfold odA odD
    refine odF_cg fun i _ hi b => ?_
    have hd' : ∀ j ∈ ds ++ [i], j < s := fun j hj => by
      rcases List.mem_append.mp hj with z | z
      · exact hd j z
      · rw [List.mem_singleton.mp z]; omega
    have hb := od_bits _ (show (odT Rs n W f ds).1 < 64 by omega) i (by omega)
    cases e : (odT Rs n W f ds).1.testBit i with
    | true =>
      rw [if_pos rfl]
      exact odA_lt hs b k _ hd' (by rw [odT_sn, odS_1, hb.1 e]; omega)
    | false =>
      rw [if_neg (by decide)]
      exact odA_eq hs k _ b hd' (by rw [odT_sn, odS_1, hb.2 e]; omega)
theorem od_eq {s : Nat} (hs : s < 7) (b : Nat × Nat × List Nat) : odA (odT Rs n W f) s s [] b = odD (odT Rs n W f) s s [] b :=
  odA_eq hs s [] b (by simp) (by show pop6 0 + s = s; unfold pop6; omega)
/-- what is left to go, at most -/
def lft (f : Nat → Int32) (W : Nat → Nat) (x : Nat) : Nat → Nat
  | 0 => 0
  | i + 1 => if x.testBit i = true then lft f W x i else lft f W x i + lW f (W i)
theorem lft_or {x i : Nat} (hx : x.testBit i = false) : ∀ s, (i < s → lft f W (x ||| 2 ^ i) s + lW f (W i) = lft f W x s) ∧ (s ≤ i → lft f W (x ||| 2 ^ i) s = lft f W x s)
  | 0 => ⟨fun z => absurd z (Nat.not_lt_zero _), fun _ => rfl⟩
  | s + 1 => by
    obtain ⟨h1, h2⟩ := lft_or hx s
    have hb : (x ||| 2 ^ i).testBit s = (x.testBit s || decide (i = s)) := by rw [Nat.testBit_or, Nat.testBit_two_pow]
    unfold lft
    rw [hb]
    by_cases e : i = s
    · subst e
      rw [hx, decide_eq_true rfl, Bool.false_or, if_pos rfl, if_neg (by decide)]
      refine ⟨fun _ => ?_, fun z => absurd z (by omega)⟩
      rw [h2 (Nat.le_refl _)]
    · rw [decide_eq_false e, Bool.or_false]
      refine ⟨fun z => ?_, fun z => ?_⟩
      · have := h1 (by omega)
        split <;> omega
      · have := h2 (by omega)
        rw [this]
theorem odD_pr {s : Nat} (hn : n ≤ 17) {b : Nat × Nat × List Nat} : ∀ k ds, (odT Rs n W f ds).2.2.1 + lft f W (odT Rs n W f ds).1 s < b.1 → odD (odT Rs n W f) s k ds b = b
  | 0, ds, h => by
    unfold odD odL
    rw [if_neg (by omega)]
  | k + 1, ds, h => by
    unfold odD
    refine odF_id fun i _ hi => ?_
    cases e : (odT Rs n W f ds).1.testBit i with
    | true => rw [if_pos rfl]
    | false =>
      rw [if_neg (by decide)]
      refine odD_pr hn k _ ?_
      have h1 := (lft_or (f := f) (W := W) e s).1 (by omega)
      have h2 := tal_lW (odT_tal (Rs := Rs) (W := W) (f := f) hn ds) (W i)
      rw [odT_sn, odS_1]
      unfold odS
      split
      · show (odT Rs n W f ds).2.2.1 + lW (odT Rs n W f ds).2.1 (W i) + _ < _
        omega
      · show (odT Rs n W f ds).2.2.1 + _ < _
        omega
end ODQ
