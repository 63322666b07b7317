theorem am_chunk {α : Type} (p : α → Bool) (K : Nat) : ∀ (n : Nat) (l : List α), (∀ j, j < n → ((l.drop (K * j)).take K).all p = true) → l.length ≤ K * n → l.all p = true
  | 0, l, _, hl => by
    have : l = [] := List.eq_nil_of_length_eq_zero (by omega)
    subst this
    rfl
  | n + 1, l, h, hl => by
    rw [← List.take_append_drop K l, List.all_append, Bool.and_eq_true]
    refine ⟨by simpa using h 0 (by omega), am_chunk p K n (l.drop K) (fun j hj => ?_) (by rw [List.length_drop]; rw [Nat.mul_succ] at hl; omega)⟩
    have := h (j + 1) (by omega)
    rw [List.drop_drop]
    rw [Nat.mul_succ, Nat.add_comm] at this
    exact this
theorem k_law0 : (((am_rows e_Law_law).drop (50 * 0)).take 50).all (fun r => decide (decode e_Law_law.2.1 r.1 = .ok (r.2.1, r.2.2.1))) = true := by decide +kernel
theorem k_law1 : (((am_rows e_Law_law).drop (50 * 1)).take 50).all (fun r => decide (decode e_Law_law.2.1 r.1 = .ok (r.2.1, r.2.2.1))) = true := by decide +kernel
theorem k_law2 : (((am_rows e_Law_law).drop (50 * 2)).take 50).all (fun r => decide (decode e_Law_law.2.1 r.1 = .ok (r.2.1, r.2.2.1))) = true := by decide +kernel
theorem k_law3 : (((am_rows e_Law_law).drop (50 * 3)).take 50).all (fun r => decide (decode e_Law_law.2.1 r.1 = .ok (r.2.1, r.2.2.1))) = true := by decide +kernel
theorem k_law4 : (((am_rows e_Law_law).drop (50 * 4)).take 50).all (fun r => decide (decode e_Law_law.2.1 r.1 = .ok (r.2.1, r.2.2.1))) = true := by decide +kernel
theorem k_law5 : (((am_rows e_Law_law).drop (50 * 5)).take 50).all (fun r => decide (decode e_Law_law.2.1 r.1 = .ok (r.2.1, r.2.2.1))) = true := by decide +kernel
theorem k_law6 : (((am_rows e_Law_law).drop (50 * 6)).take 50).all (fun r => decide (decode e_Law_law.2.1 r.1 = .ok (r.2.1, r.2.2.1))) = true := by decide +kernel
theorem k_law7 : (((am_rows e_Law_law).drop (50 * 7)).take 50).all (fun r => decide (decode e_Law_law.2.1 r.1 = .ok (r.2.1, r.2.2.1))) = true := by decide +kernel
theorem k_law8 : (((am_rows e_Law_law).drop (50 * 8)).take 50).all (fun r => decide (decode e_Law_law.2.1 r.1 = .ok (r.2.1, r.2.2.1))) = true := by decide +kernel
theorem k_law9 : (((am_rows e_Law_law).drop (50 * 9)).take 50).all (fun r => decide (decode e_Law_law.2.1 r.1 = .ok (r.2.1, r.2.2.1))) = true := by decide +kernel
theorem k_law10 : (((am_rows e_Law_law).drop (50 * 10)).take 50).all (fun r => decide (decode e_Law_law.2.1 r.1 = .ok (r.2.1, r.2.2.1))) = true := by decide +kernel
theorem k_law11 : (((am_rows e_Law_law).drop (50 * 11)).take 50).all (fun r => decide (decode e_Law_law.2.1 r.1 = .ok (r.2.1, r.2.2.1))) = true := by decide +kernel
theorem k_law12 : (((am_rows e_Law_law).drop (50 * 12)).take 50).all (fun r => decide (decode e_Law_law.2.1 r.1 = .ok (r.2.1, r.2.2.1))) = true := by decide +kernel
theorem k_law13 : (((am_rows e_Law_law).drop (50 * 13)).take 50).all (fun r => decide (decode e_Law_law.2.1 r.1 = .ok (r.2.1, r.2.2.1))) = true := by decide +kernel
theorem k_lawL : am_lk e_Law_law = true := by decide +kernel
theorem k_law : am_ok1 e_Law_law = true := by
  unfold am_ok1
  rw [Bool.and_eq_true]
  refine ⟨am_chunk _ 50 14 _ (fun j hj => ?_) (by decide +kernel), k_lawL⟩
  match j, hj with
  | 0, _ => exact k_law0
  | 1, _ => exact k_law1
  | 2, _ => exact k_law2
  | 3, _ => exact k_law3
  | 4, _ => exact k_law4
  | 5, _ => exact k_law5
  | 6, _ => exact k_law6
  | 7, _ => exact k_law7
  | 8, _ => exact k_law8
  | 9, _ => exact k_law9
  | 10, _ => exact k_law10
  | 11, _ => exact k_law11
  | 12, _ => exact k_law12
  | 13, _ => exact k_law13
  | j + 14, hj => omega
