/-! ===== one more rule among the cells ===== -/
theorem blt_d (a b : Nat) : Nat.blt a b = decide (a < b) := by
  by_cases z : a < b
  · rw [decide_eq_true z]; exact Nat.ble_eq_true_of_le z
  · rw [decide_eq_false z]
    cases e : Nat.blt a b with
    | false => rfl
    | true => have := Nat.le_of_ble_eq_true (show Nat.ble (a + 1) b = true from e); omega
theorem beq_d (a b : Nat) : Nat.beq a b = decide (a = b) := by
  by_cases z : a = b
  · rw [decide_eq_true z]; subst z; exact Nat.beq_refl a
  · rw [decide_eq_false z]
    cases e : Nat.beq a b with
    | false => rfl
    | true => exact absurd (Nat.eq_of_beq_eq_true e) z
theorem cnd_d {α : Type} {p : Prop} [Decidable p] {x y : α} : (bif decide p then x else y) = if p then x else y := by
  by_cases z : p
  · rw [decide_eq_true z, if_pos z]; rfl
  · rw [decide_eq_false z, if_neg z]; rfl
theorem and_d {p q : Prop} [Decidable p] [Decidable q] : (decide p && decide q) = decide (p ∧ q) := by
  by_cases z : p <;> by_cases w : q <;> simp [z, w]
theorem gR_if (ρ : List (Nat × Nat)) (x k : Nat) : gR ρ x k = if x < 213 then (if x = 22 then (if k < ρ.length then 213 + 3 * k else 0) else (gR0.getD (x - 12) []).getD k 0) else (if (x < 213 + 3 * ρ.length ∧ (x - 213) % 3 = 0) ∧ k < 2 then x + 1 + k else 0) := by
  unfold gR
  rw [blt_d, blt_d, blt_d, blt_d, beq_d, beq_d, and_d, and_d, cnd_d, cnd_d, cnd_d, cnd_d]
theorem gS_if (Lx : Nat) (ρ : List (Nat × Nat)) (x : Nat) : gS Lx ρ x = if x = 1 then .inr (8, Lx) else if x < 12 then .inr (9, 0) else if x < 213 then gS0.getD (x - 12) (.inr (9, 0)) else if x < 213 + 3 * ρ.length then (if (x - 213) % 3 = 0 then .inl 6 else .inr (0, if (x - 213) % 3 = 1 then (ρ.getD ((x - 213) / 3) (0, 0)).1 else (ρ.getD ((x - 213) / 3) (0, 0)).2)) else .inr (9, 0) := by
  unfold gS
  rw [beq_d, blt_d, blt_d, blt_d, beq_d, beq_d, cnd_d, cnd_d, cnd_d, cnd_d, cnd_d, cnd_d]
theorem gg_grow {Lx : Nat} {ρ : List (Nat × Nat)} {a b N : Nat} (hN : N = 213 + 3 * ρ.length) :
    (am_u (am_u (am_u (am_new (am_new (am_new (gg Lx ρ) (.inl 6)) (.inr (0, a))) (.inr (0, b))).1 N 0 (N + 1)) N 1 (N + 2)) 22 ρ.length N, (am_new (am_new (am_new (gg Lx ρ) (.inl 6)) (.inr (0, a))) (.inr (0, b))).2) = gg Lx (ρ ++ [(a, b)]) := by
  have hl : (ρ ++ [(a, b)]).length = ρ.length + 1 := by rw [List.length_append]; rfl
  subst hN
  refine Prod.ext ?_ (Prod.ext ?_ ?_)
  · funext x k
    show am_u (am_u (am_u (am_r (am_r (am_r (gR ρ) (213 + 3 * ρ.length) (fun _ => 0)) (213 + 3 * ρ.length + 1) (fun _ => 0)) (213 + 3 * ρ.length + 1 + 1) (fun _ => 0)) (213 + 3 * ρ.length) 0 (213 + 3 * ρ.length + 1)) (213 + 3 * ρ.length) 1 (213 + 3 * ρ.length + 2)) 22 ρ.length (213 + 3 * ρ.length) x k = gR (ρ ++ [(a, b)]) x k
    have rne : ∀ {f : Nat → Nat → Nat} {c y : Nat} {g : Nat → Nat}, y ≠ c → am_r f c g y = f y := fun h => if_neg h
    have rat : ∀ {f : Nat → Nat → Nat} {c : Nat} {g : Nat → Nat}, am_r f c g c = g := if_pos rfl
    by_cases z : x = 22
    · subst z
      rw [gR_if, hl, if_pos (show 22 < 213 by decide), if_pos rfl]
      by_cases w : k = ρ.length
      · subst w; rw [am_u_at, if_pos (by omega)]
      · rw [am_u_nk w, am_u_ne (by omega), am_u_ne (by omega), rne (by omega), rne (by omega), rne (by omega), gR_if, if_pos (show 22 < 213 by decide), if_pos rfl]
        by_cases y : k < ρ.length
        · rw [if_pos y, if_pos (by omega)]
        · rw [if_neg y, if_neg (by omega)]
    · rw [am_u_ne z]
      by_cases y : x = 213 + 3 * ρ.length
      · subst y
        rw [gR_if, hl, if_neg (by omega)]
        by_cases w1 : k = 1
        · subst w1; rw [am_u_at, if_pos (by omega)]
        · rw [am_u_nk w1]
          by_cases w0 : k = 0
          · subst w0; rw [am_u_at, if_pos (by omega)]
          · rw [am_u_nk w0, rne (by omega), rne (by omega), rat, if_neg (by omega)]
      · rw [am_u_ne y, am_u_ne y]
        by_cases y2 : x = 213 + 3 * ρ.length + 1 + 1
        · subst y2; rw [rat, gR_if, hl, if_neg (by omega), if_neg (by omega)]
        · rw [rne y2]
          by_cases y1 : x = 213 + 3 * ρ.length + 1
          · subst y1; rw [rat, gR_if, hl, if_neg (by omega), if_neg (by omega)]
          · rw [rne y1, rne y, gR_if, gR_if, hl]
            by_cases q : x < 213
            · rw [if_pos q, if_pos q, if_neg z, if_neg z]
            · rw [if_neg q, if_neg q]
              by_cases r : (x < 213 + 3 * ρ.length ∧ (x - 213) % 3 = 0) ∧ k < 2
              · rw [if_pos r, if_pos (by omega)]
              · rw [if_neg r, if_neg (by omega)]
  · funext x
    show am_s (am_s (am_s (gS Lx ρ) (213 + 3 * ρ.length) (.inl 6)) (213 + 3 * ρ.length + 1) (.inr (0, a))) (213 + 3 * ρ.length + 1 + 1) (.inr (0, b)) x = gS Lx (ρ ++ [(a, b)]) x
    have sne : ∀ {S : Nat → am_Sh} {c y : Nat} {v : am_Sh}, y ≠ c → am_s S c v y = S y := fun h => if_neg h
    have sat : ∀ {S : Nat → am_Sh} {c : Nat} {v : am_Sh}, am_s S c v c = v := if_pos rfl
    have glast : (ρ ++ [(a, b)]).getD ρ.length (0, 0) = (a, b) := by simp [List.getD_eq_getElem?_getD]
    by_cases y2 : x = 213 + 3 * ρ.length + 1 + 1
    · subst y2
      rw [sat, gS_if, hl, if_neg (by omega), if_neg (by omega), if_neg (by omega), if_pos (by omega), if_neg (by omega), if_neg (by omega), show (213 + 3 * ρ.length + 1 + 1 - 213) / 3 = ρ.length by omega, glast]
    · rw [sne y2]
      by_cases y1 : x = 213 + 3 * ρ.length + 1
      · subst y1
        rw [sat, gS_if, hl, if_neg (by omega), if_neg (by omega), if_neg (by omega), if_pos (by omega), if_neg (by omega), if_pos (by omega), show (213 + 3 * ρ.length + 1 - 213) / 3 = ρ.length by omega, glast]
      · rw [sne y1]
        by_cases y : x = 213 + 3 * ρ.length
        · subst y
          rw [sat, gS_if, hl, if_neg (by omega), if_neg (by omega), if_neg (by omega), if_pos (by omega), if_pos (by omega)]
        · rw [sne y, gS_if, gS_if, hl]
          by_cases q1 : x = 1
          · rw [if_pos q1, if_pos q1]
          · rw [if_neg q1, if_neg q1]
            by_cases q2 : x < 12
            · rw [if_pos q2, if_pos q2]
            · rw [if_neg q2, if_neg q2]
              by_cases q3 : x < 213
              · rw [if_pos q3, if_pos q3]
              · rw [if_neg q3, if_neg q3]
                by_cases q4 : x < 213 + 3 * ρ.length
                · have eg : (ρ ++ [(a, b)]).getD ((x - 213) / 3) (0, 0) = ρ.getD ((x - 213) / 3) (0, 0) := by
                    rw [List.getD_eq_getElem?_getD, List.getD_eq_getElem?_getD, List.getElem?_append_left (by omega)]
                  rw [if_pos q4, if_pos (show x < 213 + 3 * (ρ.length + 1) by omega), eg]
                · rw [if_neg q4, if_neg (by omega)]
  · show 213 + 3 * ρ.length + 1 + 1 + 1 = 213 + 3 * (ρ ++ [(a, b)]).length
    rw [hl]; omega
