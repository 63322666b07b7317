/-! ===== a row copied to its length ===== -/
theorem sp_copyOf {d : Nat} {Q : am_Q} {I : am_I} {L : am_L} {G : am_G} {x n : Nat} (hN : G.2.1 x = .inr (0, 400)) (hx : x ≠ G.2.2) (hn : n < 400)
    (hmin : ∀ {Q' : am_Q} {I' : am_I} {L' : am_L} {G' : am_G}, Q' (some (.int (nI n))) I' L' G' → am_run (d + 1) 223 [.int (Int32.ofNat 400), .int (nI n)] I' L' G' Q')
    (h : ∀ I', (∀ a, a ≠ G.2.2 → I' a = I a) → (∀ j, j < n → I' G.2.2 j = I x j) → Q (some (.ref G.2.2)) I' (am_r L G.2.2 (fun _ => 0)) (am_new G (.inr (0, n)))) : am_run (d + 2) 222 [.ref x, .int (nI n)] I L G Q := by
  have hcl : (nI n).toNatClampNeg = n := nI_clamp (by omega)
  have hne : ¬ nI n = Int32.ofNat 400 := fun q => absurd ((nI_eq (b := 400) (by omega) (by decide)).mp q) (by omega)
  have rne : ∀ {c y : Nat} {g : Nat → Int32} {f : am_I}, y ≠ c → am_r f c g y = f y := fun h => if_neg h
  have rat : ∀ {c : Nat} {g : Nat → Int32} {f : am_I}, am_r f c g c = g := if_pos rfl
  refine run_in rfl rfl ⟨rfl, rfl⟩ (sg_Arrays_copyOf_0 x (nI n) 400 hN (fun _ => nI_pos (by omega)) (fun _ => by rw [hcl]; omega) (fun _ => by rw [hcl]; omega) (fun _ => ?_) (fun q => absurd q hne))
  rw [hcl]
  have hN2 : (am_new G (.inr (0, n))).2.1 x = .inr (0, 400) := by show am_s G.2.1 G.2.2 _ x = _; exact (if_neg hx).trans hN
  refine sg_Arrays_copyOf_18 _ _ x (nI n) G.2.2 400 hN2 (by omega) (by omega) (hmin ?_)
  refine sg_Arrays_copyOf_28 _ _ x (nI n) G.2.2 x 0 G.2.2 0 (nI n) 400 n hN2 (by show am_s G.2.1 G.2.2 _ G.2.2 = _; exact if_pos rfl) (by rw [hcl]; show 0 + n ≤ 400; omega) (by rw [hcl]; show 0 + n ≤ n; omega) (by decide) (by decide) (nI_pos (by omega)) (by omega) (by omega) ?_
  rw [hcl]
  refine h _ (fun a ha => by rw [rne ha, rne ha]) (fun j hj => ?_)
  rw [rat, rne hx]
  exact cpyN hj
