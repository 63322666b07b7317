/-! ===== the constructor of Orders (by wip/gen/mkord.py) ===== -/
theorem setP_end : ∀ (i : Nat) (a : List Nat) (y : Nat), a.length = i → setP i a y = a ++ [y]
  | 0, [], _, _ => rfl
  | 0, _ :: _, _, h => absurd h (by simp)
  | _ + 1, [], _, h => absurd h (by simp)
  | i + 1, b :: a, y, h => congrArg (b :: ·) (setP_end i a y (Nat.succ.inj h))
def zO6 (o a : List Nat) (U : List cZ) : List cZ := (.inl 3, o) :: (.inr (0, 8), []) :: (.inr (4, 7), a) :: (.inr (0, 6), []) :: (.inr (0, 6), []) :: (.inr (0, 3), []) :: U
def zOr (x y : Nat) : List cZ := zO6 [y, x + 1, 0, x + 2, x + 3, x + 4, 0, 0, x + 5] ((((((([] ++ [x + 6 + 6 * 0]) ++ [x + 6 + 6 * 1]) ++ [x + 6 + 6 * 2]) ++ [x + 6 + 6 * 3]) ++ [x + 6 + 6 * 4]) ++ [x + 6 + 6 * 5]) ++ [x + 6 + 6 * 6]) ((((((([] ++ zRd (x + 6 + 6 * 0)) ++ zRd (x + 6 + 6 * 1)) ++ zRd (x + 6 + 6 * 2)) ++ zRd (x + 6 + 6 * 3)) ++ zRd (x + 6 + 6 * 4)) ++ zRd (x + 6 + 6 * 5)) ++ zRd (x + 6 + 6 * 6))
section INO
variable {d Lx x y : Nat} {Z0 : List cZ} {Q : am_Q} {I : am_I}
theorem or_it {i : Nat} {a o : List Nat} {U : List cZ} {k n : Nat} (hx : x = 12 + Z0.length) (hi : i < 7) (hU : U.length = 6 * i) (ha : a.length = i) (ho : o.getD 3 0 = x + 2) (hI : ∀ b, x + 6 + 6 * i ≤ b → I b = fun _ => 0) (hk : k + 6 ≤ 47) (hn : n + 94 ≤ 688)
    (h : am_W am_all (am_run (d + 1)) e_Orders_init Q 51 [.ref x, .ref y, .int (nI (i + 1))] [] (am_u I (x + 6 + 6 * i) 8 (-1)) am_L0 (zG Lx (Z0 ++ zO6 o (a ++ [x + 6 + 6 * i]) (U ++ zRd (x + 6 + 6 * i)))) (k + 6) (n + 94)) :
    am_W am_all (am_run (d + 1)) e_Orders_init Q 51 [.ref x, .ref y, .int (nI i)] [] I am_L0 (zG Lx (Z0 ++ zO6 o a U)) k n := by
  have c : ¬ 6 < nI i := nI_nlt (a := 6) (b := i) (by omega) (by decide)
  have hl : (zO6 o a U).length = 6 + 6 * i := by show U.length + 6 = _; omega
  have e3 : (zG Lx (Z0 ++ zO6 o a U)).1 x 3 = x + 2 := rfQ (j := 0) (by omega) ho
  have eN : (zG Lx (Z0 ++ zO6 o a U)).2.2 = x + 6 + 6 * i := nnQ (by rw [hl]; omega)
  refine sg_Orders_init_51 k n x y (nI i) (fun z => absurd z c) (fun z => absurd z c) (fun z => absurd z c) (fun _ => shQ (j := 0) (by omega) rfl) (fun _ => Nat.ble_eq_true_of_le (by omega)) (fun _ => Nat.ble_eq_true_of_le (by omega)) (fun _ => by omega) (fun _ => by omega) (fun _ => zC (Z := Z0 ++ zO6 o a U) (N := x + 6 + 6 * i) (as' := []) (lnQ (by rw [hl]; omega)).symm (hI _ (Nat.le_refl _)) rfl ?_) (fun _ => nw_at)
  refine sp_Roads_init (d := d) (x := x + 6 + 6 * i) (lnQ (by rw [hl]; omega)) (fun b hb => hI b (by omega)) ?_
  rw [List.append_assoc]
  refine sg_Orders_init_69 _ _ x y _ _ _ _ 7 (shQ (j := 2) (e3.trans (by omega)) rfl) (shQ (j := 6 + 6 * i) (eN.trans (by omega)) ?_) (vp_in_nI (by omega) (by decide)) (swQ (j := 2) (f' := i) (N := x + 6 + 6 * i) (T' := zO6 o (a ++ [x + 6 + 6 * i]) (U ++ zRd (x + 6 + 6 * i))) (e3.trans (by omega)) ?_ (nI_clamp (by omega)) eN ?_ ?_)
  · rw [← hl]; exact congrArg Prod.fst (gz_r (Z0 := zO6 o a U) (T := zRd (x + 6 + 6 * i)) (j := 0))
  · rw [List.length_append, hl]; omega
  · show zO6 o (setP i a (x + 6 + 6 * i)) (U ++ zRd (x + 6 + 6 * i)) = _
    rw [setP_end i a _ ha]
  · refine sg_Orders_init_70 _ _ x y _ ?_
    rw [nI_1]; exact h
theorem sp_Orders_init (hx : x = 12 + Z0.length) (hI : ∀ a, x < a → I a = fun _ => 0) (h : Q none (am_u (am_u (am_u (am_u (am_u (am_u (am_u I (x + 6 + 6 * 0) 8 (-1)) (x + 6 + 6 * 1) 8 (-1)) (x + 6 + 6 * 2) 8 (-1)) (x + 6 + 6 * 3) 8 (-1)) (x + 6 + 6 * 4) 8 (-1)) (x + 6 + 6 * 5) 8 (-1)) (x + 6 + 6 * 6) 8 (-1)) am_L0 (zG Lx (Z0 ++ zOr x y))) : am_run (d + 2) 27 [.ref x, .ref y] I am_L0 (zG Lx (Z0 ++ [(.inl 3, [])])) Q := by
  refine run_in rfl rfl ⟨rfl, rfl⟩ (sg_Orders_init_0 x y (shQ (j := 0) (by omega) rfl) (nshQ (j := 0) (by omega) rfl) (alQ (j := 0) (N := x + 1) (T' := [(.inl 3, [0, x + 1]), (.inr (0, 8), [])]) (by omega) (show 0 < 2 by decide) (show 12 + (Z0.length + 1) = x + 1 by omega) (hI _ (by omega)) rfl ?_))
  refine sg_Orders_init_12 _ _ x y _ (by decide) (by decide) (nshQ (j := 0) (by omega) rfl) (alQ (j := 0) (N := x + 2) (T' := [(.inl 3, [0, x + 1, 0, x + 2]), (.inr (0, 8), []), (.inr (4, 7), [])]) (by omega) (show 0 < 3 by decide) (show 12 + (Z0.length + 2) = x + 2 by omega) (hI _ (by omega)) rfl ?_)
  refine sg_Orders_init_21 _ _ x y _ (by decide) (by decide) (nshQ (j := 0) (by omega) rfl) (alQ (j := 0) (N := x + 3) (T' := [(.inl 3, [0, x + 1, 0, x + 2, x + 3]), (.inr (0, 8), []), (.inr (4, 7), []), (.inr (0, 6), [])]) (by omega) (show 0 < 4 by decide) (show 12 + (Z0.length + 3) = x + 3 by omega) (hI _ (by omega)) rfl ?_)
  refine sg_Orders_init_29 _ _ x y _ (by decide) (by decide) (nshQ (j := 0) (by omega) rfl) (alQ (j := 0) (N := x + 4) (T' := [(.inl 3, [0, x + 1, 0, x + 2, x + 3, x + 4]), (.inr (0, 8), []), (.inr (4, 7), []), (.inr (0, 6), []), (.inr (0, 6), [])]) (by omega) (show 0 < 5 by decide) (show 12 + (Z0.length + 4) = x + 4 by omega) (hI _ (by omega)) rfl ?_)
  refine sg_Orders_init_37 _ _ x y _ (by decide) (by decide) (nshQ (j := 0) (by omega) rfl) (alQ (j := 0) (N := x + 5) (T' := [(.inl 3, [0, x + 1, 0, x + 2, x + 3, x + 4, 0, 0, x + 5]), (.inr (0, 8), []), (.inr (4, 7), []), (.inr (0, 6), []), (.inr (0, 6), []), (.inr (0, 3), [])]) (by omega) (show 0 < 6 by decide) (show 12 + (Z0.length + 5) = x + 5 by omega) (hI _ (by omega)) rfl ?_)
  refine sg_Orders_init_44 _ _ x y _ (shQ (j := 0) (by omega) rfl) (swQ (j := 0) (N := y) (T' := [(.inl 3, [y, x + 1, 0, x + 2, x + 3, x + 4, 0, 0, x + 5]), (.inr (0, 8), []), (.inr (4, 7), []), (.inr (0, 6), []), (.inr (0, 6), []), (.inr (0, 3), [])]) (by omega) (show 0 < 6 by decide) rfl rfl rfl ?_)
  refine sg_Orders_init_49 _ _ x y _ ?_
  refine or_it (i := 0) (a := []) (U := []) (o := [y, x + 1, 0, x + 2, x + 3, x + 4, 0, 0, x + 5]) hx (by decide) rfl rfl rfl (fun b hb => hI b (by omega)) (by decide) (by decide) ?_
  have hI : ∀ a, x + 6 + 6 * 0 < a → (am_u I (x + 6 + 6 * 0) 8 (-1)) a = fun _ => 0 := fun a ha => by rw [am_u_ne (by omega)]; exact hI a (by omega)
  refine or_it (i := 1) (a := ([] ++ [x + 6 + 6 * 0])) (U := ([] ++ zRd (x + 6 + 6 * 0))) (o := [y, x + 1, 0, x + 2, x + 3, x + 4, 0, 0, x + 5]) hx (by decide) rfl rfl rfl (fun b hb => hI b (by omega)) (by decide) (by decide) ?_
  have hI : ∀ a, x + 6 + 6 * 1 < a → (am_u (am_u I (x + 6 + 6 * 0) 8 (-1)) (x + 6 + 6 * 1) 8 (-1)) a = fun _ => 0 := fun a ha => by rw [am_u_ne (by omega)]; exact hI a (by omega)
  refine or_it (i := 2) (a := (([] ++ [x + 6 + 6 * 0]) ++ [x + 6 + 6 * 1])) (U := (([] ++ zRd (x + 6 + 6 * 0)) ++ zRd (x + 6 + 6 * 1))) (o := [y, x + 1, 0, x + 2, x + 3, x + 4, 0, 0, x + 5]) hx (by decide) rfl rfl rfl (fun b hb => hI b (by omega)) (by decide) (by decide) ?_
  have hI : ∀ a, x + 6 + 6 * 2 < a → (am_u (am_u (am_u I (x + 6 + 6 * 0) 8 (-1)) (x + 6 + 6 * 1) 8 (-1)) (x + 6 + 6 * 2) 8 (-1)) a = fun _ => 0 := fun a ha => by rw [am_u_ne (by omega)]; exact hI a (by omega)
  refine or_it (i := 3) (a := ((([] ++ [x + 6 + 6 * 0]) ++ [x + 6 + 6 * 1]) ++ [x + 6 + 6 * 2])) (U := ((([] ++ zRd (x + 6 + 6 * 0)) ++ zRd (x + 6 + 6 * 1)) ++ zRd (x + 6 + 6 * 2))) (o := [y, x + 1, 0, x + 2, x + 3, x + 4, 0, 0, x + 5]) hx (by decide) rfl rfl rfl (fun b hb => hI b (by omega)) (by decide) (by decide) ?_
  have hI : ∀ a, x + 6 + 6 * 3 < a → (am_u (am_u (am_u (am_u I (x + 6 + 6 * 0) 8 (-1)) (x + 6 + 6 * 1) 8 (-1)) (x + 6 + 6 * 2) 8 (-1)) (x + 6 + 6 * 3) 8 (-1)) a = fun _ => 0 := fun a ha => by rw [am_u_ne (by omega)]; exact hI a (by omega)
  refine or_it (i := 4) (a := (((([] ++ [x + 6 + 6 * 0]) ++ [x + 6 + 6 * 1]) ++ [x + 6 + 6 * 2]) ++ [x + 6 + 6 * 3])) (U := (((([] ++ zRd (x + 6 + 6 * 0)) ++ zRd (x + 6 + 6 * 1)) ++ zRd (x + 6 + 6 * 2)) ++ zRd (x + 6 + 6 * 3))) (o := [y, x + 1, 0, x + 2, x + 3, x + 4, 0, 0, x + 5]) hx (by decide) rfl rfl rfl (fun b hb => hI b (by omega)) (by decide) (by decide) ?_
  have hI : ∀ a, x + 6 + 6 * 4 < a → (am_u (am_u (am_u (am_u (am_u I (x + 6 + 6 * 0) 8 (-1)) (x + 6 + 6 * 1) 8 (-1)) (x + 6 + 6 * 2) 8 (-1)) (x + 6 + 6 * 3) 8 (-1)) (x + 6 + 6 * 4) 8 (-1)) a = fun _ => 0 := fun a ha => by rw [am_u_ne (by omega)]; exact hI a (by omega)
  refine or_it (i := 5) (a := ((((([] ++ [x + 6 + 6 * 0]) ++ [x + 6 + 6 * 1]) ++ [x + 6 + 6 * 2]) ++ [x + 6 + 6 * 3]) ++ [x + 6 + 6 * 4])) (U := ((((([] ++ zRd (x + 6 + 6 * 0)) ++ zRd (x + 6 + 6 * 1)) ++ zRd (x + 6 + 6 * 2)) ++ zRd (x + 6 + 6 * 3)) ++ zRd (x + 6 + 6 * 4))) (o := [y, x + 1, 0, x + 2, x + 3, x + 4, 0, 0, x + 5]) hx (by decide) rfl rfl rfl (fun b hb => hI b (by omega)) (by decide) (by decide) ?_
  have hI : ∀ a, x + 6 + 6 * 5 < a → (am_u (am_u (am_u (am_u (am_u (am_u I (x + 6 + 6 * 0) 8 (-1)) (x + 6 + 6 * 1) 8 (-1)) (x + 6 + 6 * 2) 8 (-1)) (x + 6 + 6 * 3) 8 (-1)) (x + 6 + 6 * 4) 8 (-1)) (x + 6 + 6 * 5) 8 (-1)) a = fun _ => 0 := fun a ha => by rw [am_u_ne (by omega)]; exact hI a (by omega)
  refine or_it (i := 6) (a := (((((([] ++ [x + 6 + 6 * 0]) ++ [x + 6 + 6 * 1]) ++ [x + 6 + 6 * 2]) ++ [x + 6 + 6 * 3]) ++ [x + 6 + 6 * 4]) ++ [x + 6 + 6 * 5])) (U := (((((([] ++ zRd (x + 6 + 6 * 0)) ++ zRd (x + 6 + 6 * 1)) ++ zRd (x + 6 + 6 * 2)) ++ zRd (x + 6 + 6 * 3)) ++ zRd (x + 6 + 6 * 4)) ++ zRd (x + 6 + 6 * 5))) (o := [y, x + 1, 0, x + 2, x + 3, x + 4, 0, 0, x + 5]) hx (by decide) rfl rfl rfl (fun b hb => hI b (by omega)) (by decide) (by decide) ?_
  have hI : ∀ a, x + 6 + 6 * 6 < a → (am_u (am_u (am_u (am_u (am_u (am_u (am_u I (x + 6 + 6 * 0) 8 (-1)) (x + 6 + 6 * 1) 8 (-1)) (x + 6 + 6 * 2) 8 (-1)) (x + 6 + 6 * 3) 8 (-1)) (x + 6 + 6 * 4) 8 (-1)) (x + 6 + 6 * 5) 8 (-1)) (x + 6 + 6 * 6) 8 (-1)) a = fun _ => 0 := fun a ha => by rw [am_u_ne (by omega)]; exact hI a (by omega)
  have c : 6 < nI (6 + 1) := by decide
  exact sg_Orders_init_51 _ _ x y _ (fun _ => by decide) (fun _ => by decide) (fun _ => h) (fun z => absurd c z) (fun z => absurd c z) (fun z => absurd c z) (fun z => absurd c z) (fun z => absurd c z) (fun z => absurd c z) (fun z => absurd c z)
end INO
