theorem vpd {i : Int32} {N : Nat} (h : ¬ (i < 0 ∨ N ≤ i.toNatClampNeg)) : vp_in i N := h
theorem ax_getRe {P : List am_E} {C : am_C} {e : am_E} {Q : am_Q} {pc : Nat} {ls st : List Value} {I : am_I} {L : am_L} {G : am_G} {k n i c f x y : Nat} (h0 : am_at e pc = some (.getfield i, 3, c, f, 2)) (h1 : G.2.1 x = .inl c) (he : G.1 x f = y) (h2 : am_W P C e Q (pc + 3) ls (.ref y :: st) I L G k n) : am_W P C e Q pc ls (.ref x :: st) I L G k n := by
  subst he
  exact ax_getR h0 h1 h2
theorem ax_aalde {P : List am_E} {C : am_C} {e : am_E} {Q : am_Q} {pc : Nat} {ls st : List Value} {I : am_I} {L : am_L} {G : am_G} {k n a b x N t y : Nat} {v : Int} {i : Int32} (h0 : am_at e pc = some (.aaload, 1, a, b, v)) (h1 : G.2.1 x = .inr (t + 4, N)) (h2 : Nat.blt t 4 = true) (h3 : vp_in i N) (he : G.1 x i.toNatClampNeg = y) (h4 : am_W P C e Q (pc + 1) ls (.ref y :: st) I L G k n) : am_W P C e Q pc ls (.int i :: .ref x :: st) I L G k n := by
  subst he
  exact ax_aald h0 h1 h2 h3 h4
theorem gg_r {r : Nat} (h : r ∈ rdl) (Lx : Nat) (ρ : List (Nat × Nat)) : (gg Lx ρ).2.1 r = .inl 5 := (gg_rd h Lx ρ).1
theorem gg_s {s : Nat} (h : s ∈ stl) (Lx : Nat) (ρ : List (Nat × Nat)) : (gg Lx ρ).2.1 s = .inl 8 := (gg_st h Lx ρ).1
theorem gg_s1 {s : Nat} (h : s ∈ stl) : s + 1 ∈ rdl := (gg_st h 0 []).2.2.1
theorem gg_sf0 {s : Nat} (h : s ∈ stl) (Lx : Nat) (ρ : List (Nat × Nat)) : (gg Lx ρ).1 s 0 = s + 1 := (gg_st h Lx ρ).2.1
theorem gg_rf0 {r : Nat} (h : r ∈ rdl) (Lx : Nat) (ρ : List (Nat × Nat)) : (gg Lx ρ).1 r 0 = r + 1 := (gg_rd h Lx ρ).2.1 0 (by decide)
theorem gg_ra0 {r : Nat} (h : r ∈ rdl) (Lx : Nat) (ρ : List (Nat × Nat)) : (gg Lx ρ).2.1 (r + 1) = .inr (0, 17) := (gg_rd h Lx ρ).2.2 0 (by decide)
theorem gg_rf1 {r : Nat} (h : r ∈ rdl) (Lx : Nat) (ρ : List (Nat × Nat)) : (gg Lx ρ).1 r 1 = r + 2 := (gg_rd h Lx ρ).2.1 1 (by decide)
theorem gg_ra1 {r : Nat} (h : r ∈ rdl) (Lx : Nat) (ρ : List (Nat × Nat)) : (gg Lx ρ).2.1 (r + 2) = .inr (0, 17) := (gg_rd h Lx ρ).2.2 1 (by decide)
theorem gg_rf2 {r : Nat} (h : r ∈ rdl) (Lx : Nat) (ρ : List (Nat × Nat)) : (gg Lx ρ).1 r 2 = r + 3 := (gg_rd h Lx ρ).2.1 2 (by decide)
theorem gg_ra2 {r : Nat} (h : r ∈ rdl) (Lx : Nat) (ρ : List (Nat × Nat)) : (gg Lx ρ).2.1 (r + 3) = .inr (0, 17) := (gg_rd h Lx ρ).2.2 2 (by decide)
theorem gg_rf3 {r : Nat} (h : r ∈ rdl) (Lx : Nat) (ρ : List (Nat × Nat)) : (gg Lx ρ).1 r 3 = r + 4 := (gg_rd h Lx ρ).2.1 3 (by decide)
theorem gg_ra3 {r : Nat} (h : r ∈ rdl) (Lx : Nat) (ρ : List (Nat × Nat)) : (gg Lx ρ).2.1 (r + 4) = .inr (0, 17) := (gg_rd h Lx ρ).2.2 3 (by decide)
theorem gg_rf4 {r : Nat} (h : r ∈ rdl) (Lx : Nat) (ρ : List (Nat × Nat)) : (gg Lx ρ).1 r 4 = r + 5 := (gg_rd h Lx ρ).2.1 4 (by decide)
theorem gg_ra4 {r : Nat} (h : r ∈ rdl) (Lx : Nat) (ρ : List (Nat × Nat)) : (gg Lx ρ).2.1 (r + 5) = .inr (0, 17) := (gg_rd h Lx ρ).2.2 4 (by decide)
theorem gg_sf1 {s : Nat} (h : s ∈ stl) (Lx : Nat) (ρ : List (Nat × Nat)) : (gg Lx ρ).1 s 1 = s + 7 := (gg_st h Lx ρ).2.2.2.1 0 (by decide)
theorem gg_sa1 {s : Nat} (h : s ∈ stl) (Lx : Nat) (ρ : List (Nat × Nat)) : (gg Lx ρ).2.1 (s + 7) = .inr (0, 4) := (gg_st h Lx ρ).2.2.2.2.1
theorem gg_sf2 {s : Nat} (h : s ∈ stl) (Lx : Nat) (ρ : List (Nat × Nat)) : (gg Lx ρ).1 s 2 = s + 8 := (gg_st h Lx ρ).2.2.2.1 1 (by decide)
theorem gg_sa2 {s : Nat} (h : s ∈ stl) (Lx : Nat) (ρ : List (Nat × Nat)) : (gg Lx ρ).2.1 (s + 8) = .inr (0, 4) := (gg_st h Lx ρ).2.2.2.2.2.1
theorem gg_sf3 {s : Nat} (h : s ∈ stl) (Lx : Nat) (ρ : List (Nat × Nat)) : (gg Lx ρ).1 s 3 = s + 9 := (gg_st h Lx ρ).2.2.2.1 2 (by decide)
theorem gg_sa3 {s : Nat} (h : s ∈ stl) (Lx : Nat) (ρ : List (Nat × Nat)) : (gg Lx ρ).2.1 (s + 9) = .inr (0, 4) := (gg_st h Lx ρ).2.2.2.2.2.2.1
theorem gg_sf4 {s : Nat} (h : s ∈ stl) (Lx : Nat) (ρ : List (Nat × Nat)) : (gg Lx ρ).1 s 4 = s + 10 := (gg_st h Lx ρ).2.2.2.1 3 (by decide)
theorem gg_sa4 {s : Nat} (h : s ∈ stl) (Lx : Nat) (ρ : List (Nat × Nat)) : (gg Lx ρ).2.1 (s + 10) = .inr (0, 8) := (gg_st h Lx ρ).2.2.2.2.2.2.2.1
theorem gg_sf5 {s : Nat} (h : s ∈ stl) (Lx : Nat) (ρ : List (Nat × Nat)) : (gg Lx ρ).1 s 5 = s + 11 := (gg_st h Lx ρ).2.2.2.1 4 (by decide)
theorem gg_sa5 {s : Nat} (h : s ∈ stl) (Lx : Nat) (ρ : List (Nat × Nat)) : (gg Lx ρ).2.1 (s + 11) = .inr (0, 8) := (gg_st h Lx ρ).2.2.2.2.2.2.2.2.1
theorem gg_sf6 {s : Nat} (h : s ∈ stl) (Lx : Nat) (ρ : List (Nat × Nat)) : (gg Lx ρ).1 s 6 = s + 12 := (gg_st h Lx ρ).2.2.2.1 5 (by decide)
theorem gg_sa6 {s : Nat} (h : s ∈ stl) (Lx : Nat) (ρ : List (Nat × Nat)) : (gg Lx ρ).2.1 (s + 12) = .inr (0, 8) := (gg_st h Lx ρ).2.2.2.2.2.2.2.2.2.1
theorem gg_sf7 {s : Nat} (h : s ∈ stl) (Lx : Nat) (ρ : List (Nat × Nat)) : (gg Lx ρ).1 s 7 = s + 13 := (gg_st h Lx ρ).2.2.2.1 6 (by decide)
theorem gg_sa7 {s : Nat} (h : s ∈ stl) (Lx : Nat) (ρ : List (Nat × Nat)) : (gg Lx ρ).2.1 (s + 13) = .inr (0, 8) := (gg_st h Lx ρ).2.2.2.2.2.2.2.2.2.2.1
theorem gg_sf8 {s : Nat} (h : s ∈ stl) (Lx : Nat) (ρ : List (Nat × Nat)) : (gg Lx ρ).1 s 8 = s + 14 := (gg_st h Lx ρ).2.2.2.1 7 (by decide)
theorem gg_sa8 {s : Nat} (h : s ∈ stl) (Lx : Nat) (ρ : List (Nat × Nat)) : (gg Lx ρ).2.1 (s + 14) = .inr (0, 16) := (gg_st h Lx ρ).2.2.2.2.2.2.2.2.2.2.2
theorem gg_tl {i : Int32} (h : vp_in i 7) : 52 + 6 * i.toNatClampNeg ∈ rdl := by
  obtain ⟨j, hj, rfl⟩ := vp_in_of h (by decide)
  rw [nI_clamp (by omega)]
  match j, hj with
  | 0, _ => decide
  | 1, _ => decide
  | 2, _ => decide
  | 3, _ => decide
  | 4, _ => decide
  | 5, _ => decide
  | 6, _ => decide
  | j + 7, hj => omega
theorem gg_te {i : Int32} (h : vp_in i 7) (Lx : Nat) (ρ : List (Nat × Nat)) : (gg Lx ρ).1 48 i.toNatClampNeg = 52 + 6 * i.toNatClampNeg := by
  obtain ⟨j, hj, rfl⟩ := vp_in_of h (by decide)
  rw [nI_clamp (by omega)]
  match j, hj with
  | 0, _ => rfl
  | 1, _ => rfl
  | 2, _ => rfl
  | 3, _ => rfl
  | 4, _ => rfl
  | 5, _ => rfl
  | 6, _ => rfl
  | j + 7, hj => omega
theorem gg_im {i : Int32} (h : vp_in i 4) : 126 + 15 * i.toNatClampNeg ∈ stl := by
  obtain ⟨j, hj, rfl⟩ := vp_in_of h (by decide)
  rw [nI_clamp (by omega)]
  match j, hj with
  | 0, _ => decide
  | 1, _ => decide
  | 2, _ => decide
  | 3, _ => decide
  | j + 4, hj => omega
theorem gg_ie {i : Int32} (h : vp_in i 4) (Lx : Nat) (ρ : List (Nat × Nat)) : (gg Lx ρ).1 124 i.toNatClampNeg = 126 + 15 * i.toNatClampNeg := by
  obtain ⟨j, hj, rfl⟩ := vp_in_of h (by decide)
  rw [nI_clamp (by omega)]
  match j, hj with
  | 0, _ => rfl
  | 1, _ => rfl
  | 2, _ => rfl
  | 3, _ => rfl
  | j + 4, hj => omega
theorem gg_co {i : Int32} (h : vp_in i 2) (Lx : Nat) (ρ : List (Nat × Nat)) : (gg Lx ρ).2.1 (18 + i.toNatClampNeg) = .inr (0, 400) := by
  obtain ⟨j, hj, rfl⟩ := vp_in_of h (by decide)
  rw [nI_clamp (by omega)]
  match j, hj with
  | 0, _ => rfl
  | 1, _ => rfl
  | j + 2, hj => omega
theorem gg_ce {i : Int32} (h : vp_in i 2) (Lx : Nat) (ρ : List (Nat × Nat)) : (gg Lx ρ).1 17 i.toNatClampNeg = 18 + i.toNatClampNeg := by
  obtain ⟨j, hj, rfl⟩ := vp_in_of h (by decide)
  rw [nI_clamp (by omega)]
  match j, hj with
  | 0, _ => rfl
  | 1, _ => rfl
  | j + 2, hj => omega
