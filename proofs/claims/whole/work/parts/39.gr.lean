/-! ===== soonest: passes over the roads ===== -/
def gU (f : Nat → Nat) (p v : Nat) : Nat → Nat := fun x => if x = p then v else f x
theorem gU_at (f : Nat → Nat) (p v : Nat) : gU f p v p = v := if_pos rfl
theorem gU_ne {f : Nat → Nat} {p v x : Nat} (h : x ≠ p) : gU f p v x = f x := if_neg h
/-- one road, one way: from p by a road to q -/
def relx (p q c : Nat) (o : Bool) (D : Nat → Nat) : Nat → Nat := if o = true ∧ D q + c < D p then gU D p (D q + c) else D
theorem relx_le (p q c : Nat) (o : Bool) (D : Nat → Nat) (x : Nat) : relx p q c o D x ≤ D x := by
  unfold relx
  split
  · next h =>
    by_cases e : x = p
    · subst e; rw [gU_at]; omega
    · rw [gU_ne e]; exact Nat.le_refl _
  · exact Nat.le_refl _
theorem relx_lt {p q c : Nat} {o : Bool} {D : Nat → Nat} (h : o = true ∧ D q + c < D p) : relx p q c o D p < D p := by
  unfold relx; rw [if_pos h, gU_at]; exact h.2
theorem relx_id {p q c : Nat} {o : Bool} {D : Nat → Nat} (h : ¬ (o = true ∧ D q + c < D p)) : relx p q c o D = D := by
  unfold relx; rw [if_neg h]
/-- a place's number comes of a road, or was there -/
def gFrom (n : Nat) (a b c : Nat → Nat) (u v : Nat → Bool) (D0 D : Nat → Nat) : Prop :=
  (∀ x, D x ≤ D0 x) ∧ ∀ x, D x = D0 x ∨ ∃ j, j < n ∧ ((x = a j ∧ u j = true ∧ D (b j) + c j ≤ D x) ∨ (x = b j ∧ v j = true ∧ D (a j) + c j ≤ D x))
section GR
variable (a b c : Nat → Nat) (u v : Nat → Bool)
def gStep (j : Nat) (D : Nat → Nat) : Nat → Nat := relx (b j) (a j) (c j) (v j) (relx (a j) (b j) (c j) (u j) D)
def gPass : Nat → (Nat → Nat) → Nat → Nat
  | 0, D => D
  | n + 1, D => gStep a b c u v n (gPass n D)
def gIt (n : Nat) : Nat → (Nat → Nat) → Nat → Nat
  | 0, D => D
  | k + 1, D => gPass a b c u v n (gIt n k D)
/-- has a pass a road that makes something less -/
def gChg : Nat → (Nat → Nat) → Bool
  | 0, _ => false
  | n + 1, D => gChg n D || decide (u n = true ∧ gPass a b c u v n D (b n) + c n < gPass a b c u v n D (a n)) || decide (v n = true ∧ relx (a n) (b n) (c n) (u n) (gPass a b c u v n D) (a n) + c n < relx (a n) (b n) (c n) (u n) (gPass a b c u v n D) (b n))
end GR
section GRT
variable {a b c : Nat → Nat} {u v : Nat → Bool}
theorem gStep_le (j : Nat) (D : Nat → Nat) (x : Nat) : gStep a b c u v j D x ≤ D x := Nat.le_trans (relx_le _ _ _ _ _ _) (relx_le _ _ _ _ _ _)
theorem gPass_le : ∀ (n : Nat) (D : Nat → Nat) (x : Nat), gPass a b c u v n D x ≤ D x
  | 0, _, _ => Nat.le_refl _
  | n + 1, D, x => Nat.le_trans (gStep_le n _ x) (gPass_le n D x)
theorem gIt_le (n : Nat) : ∀ (k : Nat) (D : Nat → Nat) (x : Nat), gIt a b c u v n k D x ≤ D x
  | 0, _, _ => Nat.le_refl _
  | k + 1, D, x => Nat.le_trans (gPass_le n _ x) (gIt_le n k D x)
theorem gIt_anti (n k : Nat) (D : Nat → Nat) (x : Nat) : ∀ m, gIt a b c u v n (k + m) D x ≤ gIt a b c u v n k D x
  | 0 => Nat.le_refl _
  | m + 1 => Nat.le_trans (gPass_le n _ x) (gIt_anti n k D x m)
theorem gPass_pt : ∀ (n : Nat) (D : Nat → Nat) (j : Nat), j < n → (u j = true → gPass a b c u v n D (a j) ≤ D (b j) + c j) ∧ (v j = true → gPass a b c u v n D (b j) ≤ D (a j) + c j)
  | 0, _, j, h => absurd h (Nat.not_lt_zero _)
  | n + 1, D, j, h => by
    by_cases e : j = n
    · subst e
      have hle := gPass_le (a := a) (b := b) (c := c) (u := u) (v := v) j D
      constructor
      · intro hu
        refine Nat.le_trans (relx_le _ _ _ _ _ _) ?_
        by_cases hc : u j = true ∧ gPass a b c u v j D (b j) + c j < gPass a b c u v j D (a j)
        · unfold relx; rw [if_pos hc, gU_at]; have := hle (b j); omega
        · rw [relx_id hc]
          have h2 : ¬ gPass a b c u v j D (b j) + c j < gPass a b c u v j D (a j) := fun z => hc ⟨hu, z⟩
          have := hle (b j); omega
      · intro hv
        show relx (b j) (a j) (c j) (v j) _ (b j) ≤ _
        have h1 := relx_le (a j) (b j) (c j) (u j) (gPass a b c u v j D) (a j)
        have h2 := hle (a j)
        by_cases hc : v j = true ∧ relx (a j) (b j) (c j) (u j) (gPass a b c u v j D) (a j) + c j < relx (a j) (b j) (c j) (u j) (gPass a b c u v j D) (b j)
        · unfold relx at hc ⊢; rw [if_pos hc, gU_at]; unfold relx at h1; omega
        · rw [relx_id hc]
          have h3 : ¬ relx (a j) (b j) (c j) (u j) (gPass a b c u v j D) (a j) + c j < relx (a j) (b j) (c j) (u j) (gPass a b c u v j D) (b j) := fun z => hc ⟨hv, z⟩
          omega
    · have ih := gPass_pt n D j (by omega)
      exact ⟨fun hu => Nat.le_trans (gStep_le n _ _) (ih.1 hu), fun hv => Nat.le_trans (gStep_le n _ _) (ih.2 hv)⟩
theorem gFrom_relx1 {n j : Nat} {D0 D : Nat → Nat} (hj : j < n) (h : gFrom n a b c u v D0 D) : gFrom n a b c u v D0 (relx (a j) (b j) (c j) (u j) D) := by
  refine ⟨fun x => Nat.le_trans (relx_le _ _ _ _ _ _) (h.1 x), fun x => ?_⟩
  by_cases hc : u j = true ∧ D (b j) + c j < D (a j)
  · by_cases e : x = a j
    · refine Or.inr ⟨j, hj, Or.inl ⟨e, hc.1, ?_⟩⟩
      have := relx_le (a j) (b j) (c j) (u j) D (b j)
      subst e
      have e2 : relx (a j) (b j) (c j) (u j) D (a j) = D (b j) + c j := by unfold relx; rw [if_pos hc, gU_at]
      omega
    · have e2 : relx (a j) (b j) (c j) (u j) D x = D x := by unfold relx; rw [if_pos hc, gU_ne e]
      rw [e2]
      rcases h.2 x with h | ⟨i, hi, h | h⟩
      · exact Or.inl h
      · exact Or.inr ⟨i, hi, Or.inl ⟨h.1, h.2.1, Nat.le_trans (Nat.add_le_add_right (relx_le _ _ _ _ _ _) _) h.2.2⟩⟩
      · exact Or.inr ⟨i, hi, Or.inr ⟨h.1, h.2.1, Nat.le_trans (Nat.add_le_add_right (relx_le _ _ _ _ _ _) _) h.2.2⟩⟩
  · rw [relx_id hc]; exact h.2 x
theorem gFrom_relx2 {n j : Nat} {D0 D : Nat → Nat} (hj : j < n) (h : gFrom n a b c u v D0 D) : gFrom n a b c u v D0 (relx (b j) (a j) (c j) (v j) D) := by
  refine ⟨fun x => Nat.le_trans (relx_le _ _ _ _ _ _) (h.1 x), fun x => ?_⟩
  by_cases hc : v j = true ∧ D (a j) + c j < D (b j)
  · by_cases e : x = b j
    · refine Or.inr ⟨j, hj, Or.inr ⟨e, hc.1, ?_⟩⟩
      have := relx_le (b j) (a j) (c j) (v j) D (a j)
      subst e
      have e2 : relx (b j) (a j) (c j) (v j) D (b j) = D (a j) + c j := by unfold relx; rw [if_pos hc, gU_at]
      omega
    · have e2 : relx (b j) (a j) (c j) (v j) D x = D x := by unfold relx; rw [if_pos hc, gU_ne e]
      rw [e2]
      rcases h.2 x with h | ⟨i, hi, h | h⟩
      · exact Or.inl h
      · exact Or.inr ⟨i, hi, Or.inl ⟨h.1, h.2.1, Nat.le_trans (Nat.add_le_add_right (relx_le _ _ _ _ _ _) _) h.2.2⟩⟩
      · exact Or.inr ⟨i, hi, Or.inr ⟨h.1, h.2.1, Nat.le_trans (Nat.add_le_add_right (relx_le _ _ _ _ _ _) _) h.2.2⟩⟩
  · rw [relx_id hc]; exact h.2 x
theorem gFrom_pass {n : Nat} {D0 D : Nat → Nat} (h : gFrom n a b c u v D0 D) : ∀ m, m ≤ n → gFrom n a b c u v D0 (gPass a b c u v m D)
  | 0, _ => h
  | m + 1, hm => gFrom_relx2 (by omega) (gFrom_relx1 (by omega) (gFrom_pass h m (by omega)))
theorem gFrom_it (n : Nat) (D0 : Nat → Nat) : ∀ k, gFrom n a b c u v D0 (gIt a b c u v n k D0)
  | 0 => ⟨fun _ => Nat.le_refl _, fun _ => Or.inl rfl⟩
  | k + 1 => gFrom_pass (gFrom_it n D0 k) n (Nat.le_refl _)
theorem gChg_f : ∀ (n : Nat) (D : Nat → Nat), gChg a b c u v n D = false → gPass a b c u v n D = D
  | 0, _, _ => rfl
  | n + 1, D, h => by
    unfold gChg at h
    simp only [Bool.or_eq_false_iff, decide_eq_false_iff_not] at h
    have e1 := gChg_f n D h.1.1
    show relx (b n) (a n) (c n) (v n) (relx (a n) (b n) (c n) (u n) (gPass a b c u v n D)) = D
    rw [relx_id h.2, relx_id h.1.2, e1]
theorem gChg_t : ∀ (n : Nat) (D : Nat → Nat), gChg a b c u v n D = true → ∃ x, gPass a b c u v n D x < D x
  | 0, _, h => absurd h (by unfold gChg; decide)
  | n + 1, D, h => by
    unfold gChg at h
    simp only [Bool.or_eq_true, decide_eq_true_eq] at h
    rcases h with (h | h) | h
    · obtain ⟨x, hx⟩ := gChg_t n D h
      exact ⟨x, Nat.lt_of_le_of_lt (gStep_le n _ x) hx⟩
    · exact ⟨a n, Nat.lt_of_le_of_lt (relx_le _ _ _ _ _ _) (Nat.lt_of_lt_of_le (relx_lt h) (gPass_le n D _))⟩
    · exact ⟨b n, Nat.lt_of_lt_of_le (relx_lt h) (Nat.le_trans (relx_le _ _ _ _ _ _) (gPass_le n D _))⟩
theorem gIt_fix {n k : Nat} {D : Nat → Nat} (h : gPass a b c u v n (gIt a b c u v n k D) = gIt a b c u v n k D) : ∀ m, gIt a b c u v n (k + m) D = gIt a b c u v n k D
  | 0 => rfl
  | m + 1 => by
    show gPass a b c u v n (gIt a b c u v n (k + m) D) = _
    rw [gIt_fix h m, h]
/-- the sum over the first N places -/
def gSum (D : Nat → Nat) : Nat → Nat
  | 0 => 0
  | N + 1 => gSum D N + D N
theorem gSum_le {D E : Nat → Nat} (h : ∀ x, D x ≤ E x) : ∀ N, gSum D N ≤ gSum E N
  | 0 => Nat.le_refl _
  | N + 1 => Nat.add_le_add (gSum_le h N) (h N)
theorem gSum_lt {D E : Nat → Nat} (h : ∀ x, D x ≤ E x) {x : Nat} (hx : D x < E x) : ∀ N, x < N → gSum D N < gSum E N
  | 0, z => absurd z (Nat.not_lt_zero _)
  | N + 1, z => by
    by_cases e : x = N
    · subst e; exact Nat.add_lt_add_of_le_of_lt (gSum_le h x) hx
    · exact Nat.add_lt_add_of_lt_of_le (gSum_lt h hx N (by omega)) (h N)
/-- some pass makes nothing less -/
theorem gFix_ex {n : Nat} {D : Nat → Nat} (N : Nat) (hN : ∀ k x, gPass a b c u v n (gIt a b c u v n k D) x < gIt a b c u v n k D x → x < N) : ∀ s k, gSum (gIt a b c u v n k D) N ≤ s → ∃ m, gPass a b c u v n (gIt a b c u v n (k + m) D) = gIt a b c u v n (k + m) D
  | s, k, hs => by
    by_cases hc : gChg a b c u v n (gIt a b c u v n k D) = true
    · obtain ⟨x, hx⟩ := gChg_t n _ hc
      have hlt := gSum_lt (gPass_le n (gIt a b c u v n k D)) hx N (hN k x hx)
      cases s with
      | zero => omega
      | succ s =>
        obtain ⟨m, hm⟩ := gFix_ex N hN s (k + 1) (by show gSum (gPass a b c u v n (gIt a b c u v n k D)) N ≤ s; omega)
        refine ⟨m + 1, ?_⟩
        rw [show k + (m + 1) = k + 1 + m by omega]
        exact hm
    · exact ⟨0, gChg_f n _ (by simpa using hc)⟩
/-- how many of the first N places have another number than at the end -/
def gOpen (D E : Nat → Nat) : Nat → Nat
  | 0 => 0
  | N + 1 => gOpen D E N + (if D N = E N then 0 else 1)
theorem gOpen_le {D D' E : Nat → Nat} (h : ∀ x, D x = E x → D' x = E x) : ∀ N, gOpen D' E N ≤ gOpen D E N
  | 0 => Nat.le_refl _
  | N + 1 => by
    have := gOpen_le h N
    unfold gOpen
    by_cases e : D N = E N
    · rw [if_pos e, if_pos (h N e)]; omega
    · rw [if_neg e]; split <;> omega
theorem gOpen_lt {D D' E : Nat → Nat} (h : ∀ x, D x = E x → D' x = E x) {x : Nat} (h1 : D x ≠ E x) (h2 : D' x = E x) : ∀ N, x < N → gOpen D' E N < gOpen D E N
  | 0, z => absurd z (Nat.not_lt_zero _)
  | N + 1, z => by
    unfold gOpen
    by_cases e : x = N
    · subst e
      rw [if_pos h2, if_neg h1]
      have := gOpen_le h x
      omega
    · have := gOpen_lt h h1 h2 N (by omega)
      by_cases e2 : D N = E N
      · rw [if_pos e2, if_pos (h N e2)]; omega
      · rw [if_neg e2]; split <;> omega
theorem gOpen_0 {D E : Nat → Nat} : ∀ N, gOpen D E N = 0 → ∀ x, x < N → D x = E x
  | 0, _, x, hx => absurd hx (Nat.not_lt_zero _)
  | N + 1, h, x, hx => by
    unfold gOpen at h
    by_cases e : D N = E N
    · by_cases e2 : x = N
      · subst e2; exact e
      · exact gOpen_0 N (by omega) x (by omega)
    · rw [if_neg e] at h; omega
theorem gOpen_n {D E : Nat → Nat} : ∀ N, gOpen D E N ≤ N
  | 0 => Nat.le_refl _
  | N + 1 => by have := gOpen_n (D := D) (E := E) N; unfold gOpen; split <;> omega
/-- the open place of the least number -/
theorem gMin {D E : Nat → Nat} {N : Nat} : ∀ s x, E x ≤ s → x < N → D x ≠ E x → ∃ y, y < N ∧ D y ≠ E y ∧ ∀ z, z < N → D z ≠ E z → E y ≤ E z
  | 0, x, h0, hx, h1 => ⟨x, hx, h1, fun z _ _ => by omega⟩
  | s + 1, x, h0, hx, h1 => by
    by_cases hc : ∃ z, z < N ∧ D z ≠ E z ∧ E z < E x
    · obtain ⟨z, hz, hz1, hz2⟩ := hc
      exact gMin s z (by omega) hz hz1
    · exact ⟨x, hx, h1, fun z hz hz1 => Nat.le_of_not_lt fun hlt => hc ⟨z, hz, hz1, hlt⟩⟩
variable {n N t B : Nat}
def gInit (t B : Nat) : Nat → Nat := fun p => if p = t then 0 else B
theorem gIt_N (ha : ∀ j, j < n → a j < N ∧ b j < N) {D : Nat → Nat} {x : Nat} (h : gPass a b c u v n D x < D x) : x < N := by
  rcases (gFrom_pass (a := a) (b := b) (c := c) (u := u) (v := v) (n := n) (D0 := D) (D := D) ⟨fun _ => Nat.le_refl _, fun _ => Or.inl rfl⟩ n (Nat.le_refl _)).2 x with e | ⟨j, hj, e | e⟩
  · omega
  · rw [e.1]; exact (ha j hj).1
  · rw [e.1]; exact (ha j hj).2
/-- N - 1 passes are enough -/
theorem gFix (ha : ∀ j, j < n → a j < N ∧ b j < N) (hc : ∀ j, j < n → 0 < c j) (ht : t < N) : gPass a b c u v n (gIt a b c u v n (N - 1) (gInit t B)) = gIt a b c u v n (N - 1) (gInit t B) := by
  obtain ⟨m, hm⟩ := gFix_ex (a := a) (b := b) (c := c) (u := u) (v := v) (n := n) (D := gInit t B) N (fun k x h => gIt_N ha h) _ 0 (Nat.le_refl _)
  rw [Nat.zero_add] at hm
  have key : ∀ k, gOpen (gIt a b c u v n k (gInit t B)) (gIt a b c u v n m (gInit t B)) N ≤ N - 1 - k ∧ ∀ x, gIt a b c u v n m (gInit t B) x ≤ gIt a b c u v n k (gInit t B) x := by
    intro k
    have hge : ∀ k x, gIt a b c u v n m (gInit t B) x ≤ gIt a b c u v n k (gInit t B) x := by
      intro k x
      by_cases hkm : k ≤ m
      · have := gIt_anti (a := a) (b := b) (c := c) (u := u) (v := v) n k (gInit t B) x (m - k)
        rwa [show k + (m - k) = m by omega] at this
      · have := gIt_fix hm (k - m)
        rw [show m + (k - m) = k by omega] at this
        rw [this]; exact Nat.le_refl _
    refine ⟨?_, hge k⟩
    have hmono : ∀ k, ∀ x, gIt a b c u v n k (gInit t B) x = gIt a b c u v n m (gInit t B) x → gIt a b c u v n (k + 1) (gInit t B) x = gIt a b c u v n m (gInit t B) x := by
      intro k x e
      have h1 := hge (k + 1) x
      have h2 := gIt_anti (a := a) (b := b) (c := c) (u := u) (v := v) n k (gInit t B) x 1
      omega
    have h0t : gIt a b c u v n m (gInit t B) t = 0 := by
      have h1 := gIt_le (a := a) (b := b) (c := c) (u := u) (v := v) n m (gInit t B) t
      have h2 : gInit t B t = 0 := if_pos rfl
      omega
    induction k with
    | zero =>
      have e0 : gIt a b c u v n 0 (gInit t B) t = gIt a b c u v n m (gInit t B) t := (show gInit t B t = 0 from if_pos rfl).trans h0t.symm
      have hh := gOpen_lt (D := fun x => gIt a b c u v n m (gInit t B) x + 1) (D' := gIt a b c u v n 0 (gInit t B)) (E := gIt a b c u v n m (gInit t B)) (fun x e => by omega) (x := t) (by omega) e0 N ht
      have := gOpen_n (D := fun x => gIt a b c u v n m (gInit t B) x + 1) (E := gIt a b c u v n m (gInit t B)) N
      omega
    | succ k ih =>
      by_cases hz : gOpen (gIt a b c u v n k (gInit t B)) (gIt a b c u v n m (gInit t B)) N = 0
      · have := gOpen_le (hmono k) N
        omega
      · have hex : ∃ x, x < N ∧ gIt a b c u v n k (gInit t B) x ≠ gIt a b c u v n m (gInit t B) x := by
          apply Classical.byContradiction
          intro hno
          apply hz
          have : ∀ M, M ≤ N → gOpen (gIt a b c u v n k (gInit t B)) (gIt a b c u v n m (gInit t B)) M = 0 := by
            intro M
            induction M with
            | zero => intro _; rfl
            | succ M ih2 =>
              intro hM
              unfold gOpen
              rw [ih2 (by omega), if_pos (Classical.byContradiction fun z => hno ⟨M, by omega, z⟩)]
          exact this N (Nat.le_refl _)
        obtain ⟨x, hx, hx1⟩ := hex
        obtain ⟨y, hy, hy1, hy2⟩ := gMin (D := gIt a b c u v n k (gInit t B)) (E := gIt a b c u v n m (gInit t B)) _ x (Nat.le_refl _) hx hx1
        have hfin : gIt a b c u v n (k + 1) (gInit t B) y = gIt a b c u v n m (gInit t B) y := by
          have hle := hge (k + 1) y
          rcases (gFrom_it (a := a) (b := b) (c := c) (u := u) (v := v) n (gInit t B) m).2 y with e | ⟨j, hj, e | e⟩
          · have h3 := gIt_le (a := a) (b := b) (c := c) (u := u) (v := v) n k (gInit t B) y
            have h4 := hge k y
            omega
          · have hp := (gPass_pt (a := a) (b := b) (c := c) (u := u) (v := v) n (gIt a b c u v n k (gInit t B)) j hj).1 e.2.1
            have hcj := hc j hj
            have hq : gIt a b c u v n k (gInit t B) (b j) = gIt a b c u v n m (gInit t B) (b j) := Classical.byContradiction fun z => by
              have := hy2 (b j) (ha j hj).2 z
              omega
            have h5 : gIt a b c u v n (k + 1) (gInit t B) y ≤ gIt a b c u v n k (gInit t B) (b j) + c j := e.1 ▸ hp
            omega
          · have hp := (gPass_pt (a := a) (b := b) (c := c) (u := u) (v := v) n (gIt a b c u v n k (gInit t B)) j hj).2 e.2.1
            have hcj := hc j hj
            have hq : gIt a b c u v n k (gInit t B) (a j) = gIt a b c u v n m (gInit t B) (a j) := Classical.byContradiction fun z => by
              have := hy2 (a j) (ha j hj).1 z
              omega
            have h5 : gIt a b c u v n (k + 1) (gInit t B) y ≤ gIt a b c u v n k (gInit t B) (a j) + c j := e.1 ▸ hp
            omega
        have := gOpen_lt (hmono k) hy1 hfin N hy
        omega
  have hall : ∀ x, gIt a b c u v n (N - 1) (gInit t B) x = gIt a b c u v n m (gInit t B) x := by
    intro x
    by_cases hx : x < N
    · exact gOpen_0 N (by have := (key (N - 1)).1; omega) x hx
    · have hs : ∀ k, gIt a b c u v n k (gInit t B) x = gInit t B x := by
        intro k
        induction k with
        | zero => rfl
        | succ k ih =>
          have h1 := gPass_le (a := a) (b := b) (c := c) (u := u) (v := v) n (gIt a b c u v n k (gInit t B)) x
          have h2 : ¬ gPass a b c u v n (gIt a b c u v n k (gInit t B)) x < gIt a b c u v n k (gInit t B) x := fun z => hx (gIt_N ha z)
          show gPass a b c u v n (gIt a b c u v n k (gInit t B)) x = _
          omega
      rw [hs, hs]
  rw [funext hall, hm]
/-- the end of all passes: 10 places -/
theorem gDst_eq (ha : ∀ j, j < n → a j < 10 ∧ b j < 10) (hc : ∀ j, j < n → 0 < c j) (ht : t < 10) {k : Nat} (hk : gPass a b c u v n (gIt a b c u v n k (gInit t B)) = gIt a b c u v n k (gInit t B)) : gIt a b c u v n k (gInit t B) = gIt a b c u v n 9 (gInit t B) := by
  have h9 := gFix (a := a) (b := b) (c := c) (u := u) (v := v) (n := n) (N := 10) (t := t) (B := B) ha hc ht
  by_cases h : k ≤ 9
  · have := gIt_fix hk (9 - k)
    rw [show k + (9 - k) = 9 by omega] at this
    exact this.symm
  · have := gIt_fix h9 (k - 9)
    rw [show 10 - 1 + (k - 9) = k by omega] at this
    exact this
theorem gDst_fix (ha : ∀ j, j < n → a j < 10 ∧ b j < 10) (hc : ∀ j, j < n → 0 < c j) (ht : t < 10) : gPass a b c u v n (gIt a b c u v n 9 (gInit t B)) = gIt a b c u v n 9 (gInit t B) := gFix (N := 10) ha hc ht
/-- a place that is not the end and not beyond all has a road on -/
theorem gDst_road (ha : ∀ j, j < n → a j < 10 ∧ b j < 10) (hc : ∀ j, j < n → 0 < c j) (ht : t < 10) {p : Nat} (hp : p ≠ t) (hB : gIt a b c u v n 9 (gInit t B) p < B) :
    ∃ j, j < n ∧ ((p = a j ∧ u j = true ∧ gIt a b c u v n 9 (gInit t B) (b j) + c j = gIt a b c u v n 9 (gInit t B) p) ∨ (p = b j ∧ v j = true ∧ gIt a b c u v n 9 (gInit t B) (a j) + c j = gIt a b c u v n 9 (gInit t B) p)) := by
  have hf := gDst_fix (a := a) (b := b) (c := c) (u := u) (v := v) (B := B) ha hc ht
  have hi : gInit t B p = B := if_neg hp
  rcases (gFrom_it (a := a) (b := b) (c := c) (u := u) (v := v) n (gInit t B) 9).2 p with e | ⟨j, hj, e | e⟩
  · omega
  · have h1 := (gPass_pt (a := a) (b := b) (c := c) (u := u) (v := v) n (gIt a b c u v n 9 (gInit t B)) j hj).1 e.2.1
    rw [hf, ← e.1] at h1
    exact ⟨j, hj, Or.inl ⟨e.1, e.2.1, by omega⟩⟩
  · have h1 := (gPass_pt (a := a) (b := b) (c := c) (u := u) (v := v) n (gIt a b c u v n 9 (gInit t B)) j hj).2 e.2.1
    rw [hf, ← e.1] at h1
    exact ⟨j, hj, Or.inr ⟨e.1, e.2.1, by omega⟩⟩
theorem gDst_t : gIt a b c u v n 9 (gInit t B) t = 0 := by
  have h1 := gIt_le (a := a) (b := b) (c := c) (u := u) (v := v) n 9 (gInit t B) t
  have h2 : gInit t B t = 0 := if_pos rfl
  omega
theorem gIt_B (k p : Nat) : gIt a b c u v n k (gInit t B) p ≤ B := by
  have h1 := gIt_le (a := a) (b := b) (c := c) (u := u) (v := v) n k (gInit t B) p
  have h2 : gInit t B p ≤ B := by unfold gInit; split <;> omega
  omega
/-- how many places lie nearer -/
def gNear (D : Nat → Nat) (p : Nat) : Nat → Nat
  | 0 => 0
  | N + 1 => gNear D p N + (if D N < D p then 1 else 0)
theorem gNear_le {D : Nat → Nat} {p q : Nat} (h : D q ≤ D p) : ∀ N, gNear D q N ≤ gNear D p N
  | 0 => Nat.le_refl _
  | N + 1 => by
    have := gNear_le h N
    unfold gNear
    by_cases e : D N < D q
    · rw [if_pos e, if_pos (by omega)]; omega
    · rw [if_neg e]; split <;> omega
theorem gNear_lt {D : Nat → Nat} {p q : Nat} (h : D q < D p) : ∀ N, q < N → gNear D q N < gNear D p N
  | 0, z => absurd z (Nat.not_lt_zero _)
  | N + 1, z => by
    unfold gNear
    by_cases e : q = N
    · subst e
      rw [if_neg (Nat.lt_irrefl _), if_pos h]
      have := gNear_le (Nat.le_of_lt h) q
      omega
    · have := gNear_lt h N (by omega)
      by_cases e2 : D N < D q
      · rw [if_pos e2, if_pos (by omega)]; omega
      · rw [if_neg e2]; split <;> omega
theorem gNear_n {D : Nat → Nat} {p : Nat} : ∀ N, gNear D p N ≤ N
  | 0 => Nat.le_refl _
  | N + 1 => by have := gNear_n (D := D) (p := p) N; unfold gNear; split <;> omega
theorem gNear_9 {D : Nat → Nat} {p : Nat} : ∀ N, p < N → gNear D p N ≤ N - 1
  | 0, z => absurd z (Nat.not_lt_zero _)
  | N + 1, z => by
    unfold gNear
    by_cases e : p = N
    · subst e
      rw [if_neg (Nat.lt_irrefl _)]
      have := gNear_n (D := D) (p := p) p
      omega
    · have := gNear_9 (D := D) (p := p) N (by omega)
      split <;> omega
end GRT
