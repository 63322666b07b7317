/-! ===== what the small methods answer, in one expression each ===== -/
def bI (p : Prop) [Decidable p] : Int32 := if p then 1 else 0
theorem bI0 {p : Prop} [Decidable p] (h : bI p = 0) : ¬ p := fun hp => by unfold bI at h; rw [if_pos hp] at h; exact absurd h (by decide)
theorem bI1 {p : Prop} [Decidable p] (h : ¬ bI p = 0) : p := Decidable.byContradiction fun hp => h (by unfold bI; rw [if_neg hp])
theorem bI_01 (p : Prop) [Decidable p] : bI p = 0 ∨ bI p = 1 := by unfold bI; split; exact Or.inr rfl; exact Or.inl rfl
theorem bI_t {p : Prop} [Decidable p] (h : p) : bI p = 1 := if_pos h
theorem bI_f {p : Prop} [Decidable p] (h : ¬ p) : bI p = 0 := if_neg h
theorem sw_i {x k : Int32} {n : Int} (h : Int32.toInt k = n) (z : Int32.toInt x = n) : x = k := Int32.toInt_inj.mp (z.trans h.symm)
theorem sw_d {x a b : Int32} {m n : Int} (ha : Int32.toInt a = m) (hb : Int32.toInt b = n) (z : Int32.toInt x < m ∨ n < Int32.toInt x) : x < a ∨ b < x := by
  rcases z with z | z
  · exact Or.inl (Int32.lt_iff_toInt_lt.mpr (by omega))
  · exact Or.inr (Int32.lt_iff_toInt_lt.mpr (by omega))
theorem lgc (a b : Int64) : (lg_cmp a b < 0 ↔ a < b) ∧ (lg_cmp a b = 0 ↔ a = b) ∧ (0 < lg_cmp a b ↔ b < a) := by
  exact ⟨lg_cmp_lt a b, lg_cmp_eq a b, lg_cmp_gt a b⟩
/-- the entry of a method -/
theorem run_in {d i : Nat} {as ls : List Value} {ec : am_E} {I : am_I} {L : am_L} {G : am_G} {Q : am_Q} (h1 : am_all[i]? = some ec) (h2 : (am_pad (am_maxL ec) as) = ls) (h3 : ls.length = am_maxL ec ∧ as.all am_nn = true) (h : am_W am_all (am_run d) ec Q 0 ls [] I L G 0 0) : am_run (d + 1) i as I L G Q := by
  subst h2
  exact ⟨ec, h1, h3, h⟩
abbrev hRd (I : am_I) (r : Nat) (x : Int32) : Prop := ¬ x < 0 ∧ x < I r 6 ∧ x < 17
abbrev hPl (I : am_I) (r : Nat) (x : Int32) : Prop := ¬ x < 0 ∧ x < I r 5 ∧ x < 10
abbrev hCa (I : am_I) (s : Nat) (x : Int32) : Prop := ¬ x < 0 ∧ x < I s 9 ∧ x < 4
abbrev hLo (I : am_I) (s : Nat) (x : Int32) : Prop := ¬ x < 0 ∧ x < I s 10 ∧ x < 8
abbrev hTh (I : am_I) (s : Nat) (x : Int32) : Prop := hLo I s x ∧ I (s + 11) (Int32.toNatClampNeg x) = I (s + 12) (Int32.toNatClampNeg x)
abbrev hWa (I : am_I) (s : Nat) (x : Int32) : Prop := hLo I s x ∧ ¬ I (s + 11) (Int32.toNatClampNeg x) = -1 ∧ ¬ I (s + 11) (Int32.toNatClampNeg x) = I (s + 12) (Int32.toNatClampNeg x)
abbrev hNet (I : am_I) (s : Nat) : Prop := 0 < I (s + 1) 5
abbrev hAsk (I : am_I) (k f t : Int32) : Prop := ¬ k < 1 ∧ ¬ 7 < k ∧ hPl I 95 f ∧ hPl I 95 t
def cKc (I : am_I) (s : Nat) (x : Int32) : Int32 := if hCa I s x ∧ hLo I s (I (s + 8) (Int32.toNatClampNeg x)) then I (s + 10) (Int32.toNatClampNeg (I (s + 8) (Int32.toNatClampNeg x))) else 0
def cAcr (I : am_I) (r : Nat) (x p : Int32) : Int32 := if hRd I r x then (if I (r + 1) (Int32.toNatClampNeg x) = p then I (r + 2) (Int32.toNatClampNeg x) else if I (r + 2) (Int32.toNatClampNeg x) = p then I (r + 1) (Int32.toNatClampNeg x) else -1) else -1
def cCost (I : am_I) (x : Int32) : Int32 := if ¬ x < 0 ∧ x < 10 ∧ I 29 (Int32.toNatClampNeg x) < 1000000 then I 29 (Int32.toNatClampNeg x) else -2
def cBest (I : am_I) (x : Int32) : Int32 := if ¬ x < 0 ∧ x < I 46 2 ∧ x < 6 then I 50 (Int32.toNatClampNeg x) else -2
def cFirst (I : am_I) (x : Int32) : Int32 := if 0 < I 46 9 ∧ ¬ x < 0 ∧ x < 3 then I 51 (Int32.toNatClampNeg x) else -2
def cPl (L : am_L) (x : Int32) : Int32 := Int64.toInt32 ((L 37 (Int32.toNatClampNeg x)) &&& 15)
abbrev hPh (L : am_L) (x : Int32) : Prop := ¬ ((L 37 (Int32.toNatClampNeg x)) >>> (Int32.toInt64 4 &&& 63)) &&& 1 = 0
theorem ix_lt {x : Int32} {n : Nat} (hn : n < 2 ^ 31) (h0 : ¬ x < 0) (h1 : x < nI n) : ∃ j, j < n ∧ x = nI j := by
  rcases pk_ix x hn with h | h | h
  · exact absurd h h0
  · exact absurd h1 (Int32.not_lt.mpr h)
  · exact h
theorem vin {x b : Int32} {N : Nat} (h0 : ¬ x < 0) (h1 : x < b) (hb : b = nI N) (hN : N < 2 ^ 31) : vp_in x N := by
  obtain ⟨j, hj, e⟩ := ix_lt hN h0 (hb ▸ h1)
  rw [e]
  exact vp_in_nI hj hN
section SM
variable {d Lx : Nat} {ρ : List (Nat × Nat)} {I : am_I} {L : am_L} {Q : am_Q}
theorem sm_Roads_hasRoad (r : Nat) (x : Int32) (hr : r ∈ rdl) (h : Q (some (.int (bI (hRd I r x)))) I L (gg Lx ρ)) : am_run (d + 1) m_Roads_hasRoad [.ref r, .int x] I L (gg Lx ρ) Q :=
  run_in rfl rfl ⟨rfl, rfl⟩ (sz_Roads_hasRoad_0 r x hr (fun c => (bI_f (p := hRd I r x) fun z => z.1 c) ▸ h) (fun _ c => (bI_f (p := hRd I r x) fun z => c z.2.1) ▸ h) (fun _ _ c => (bI_f (p := hRd I r x) fun z => c z.2.2) ▸ h) (fun a b c => (bI_t (p := hRd I r x) ⟨a, b, c⟩) ▸ h))
theorem sm_Roads_hasPlace (r : Nat) (x : Int32) (hr : r ∈ rdl) (h : Q (some (.int (bI (hPl I r x)))) I L (gg Lx ρ)) : am_run (d + 1) m_Roads_hasPlace [.ref r, .int x] I L (gg Lx ρ) Q :=
  run_in rfl rfl ⟨rfl, rfl⟩ (sz_Roads_hasPlace_0 r x hr (fun c => (bI_f (p := hPl I r x) fun z => z.1 c) ▸ h) (fun _ c => (bI_f (p := hPl I r x) fun z => c z.2.1) ▸ h) (fun _ _ c => (bI_f (p := hPl I r x) fun z => c z.2.2) ▸ h) (fun a b c => (bI_t (p := hPl I r x) ⟨a, b, c⟩) ▸ h))
theorem sm_State_hasCarter (s : Nat) (x : Int32) (hs : s ∈ stl) (h : Q (some (.int (bI (hCa I s x)))) I L (gg Lx ρ)) : am_run (d + 1) m_State_hasCarter [.ref s, .int x] I L (gg Lx ρ) Q :=
  run_in rfl rfl ⟨rfl, rfl⟩ (sz_State_hasCarter_0 s x hs (fun c => (bI_f (p := hCa I s x) fun z => z.1 c) ▸ h) (fun _ c => (bI_f (p := hCa I s x) fun z => c z.2.1) ▸ h) (fun _ _ c => (bI_f (p := hCa I s x) fun z => c z.2.2) ▸ h) (fun a b c => (bI_t (p := hCa I s x) ⟨a, b, c⟩) ▸ h))
theorem sm_State_hasLoad (s : Nat) (x : Int32) (hs : s ∈ stl) (h : Q (some (.int (bI (hLo I s x)))) I L (gg Lx ρ)) : am_run (d + 1) m_State_hasLoad [.ref s, .int x] I L (gg Lx ρ) Q :=
  run_in rfl rfl ⟨rfl, rfl⟩ (sz_State_hasLoad_0 s x hs (fun c => (bI_f (p := hLo I s x) fun z => z.1 c) ▸ h) (fun _ c => (bI_f (p := hLo I s x) fun z => c z.2.1) ▸ h) (fun _ _ c => (bI_f (p := hLo I s x) fun z => c z.2.2) ▸ h) (fun a b c => (bI_t (p := hLo I s x) ⟨a, b, c⟩) ▸ h))
theorem sm_State_hasNet (s : Nat) (hs : s ∈ stl) (h : Q (some (.int (bI (hNet I s)))) I L (gg Lx ρ)) : am_run (d + 1) m_State_hasNet [.ref s] I L (gg Lx ρ) Q :=
  run_in rfl rfl ⟨rfl, rfl⟩ (sz_State_hasNet_0 s hs (fun c => (bI_f (p := hNet I s) c) ▸ h) (fun c => (bI_t (p := hNet I s) c) ▸ h))
theorem sm_Roads_across (r : Nat) (x p : Int32) (hr : r ∈ rdl) (h : Q (some (.int (cAcr I r x p))) I L (gg Lx ρ)) : am_run (d + 2) m_Roads_across [.ref r, .int x, .int p] I L (gg Lx ρ) Q := by
  refine run_in rfl rfl ⟨rfl, rfl⟩ (sz_Roads_across_0 r x p hr (sm_Roads_hasRoad r x hr ?_))
  show am_W am_all (am_run (d + 1)) e_Roads_across Q 5 [.ref r, .int x, .int p] [.int (bI (hRd I r x))] I L (gg Lx ρ) 0 0
  unfold cAcr at h
  refine sz_Roads_across_5 r x p _ hr (fun c => vin (bI1 c).1 (bI1 c).2.2 rfl (by decide)) (fun c c2 c3 => ?_) (fun c c2 c3 => ?_) (fun c c2 => ?_) (fun c => ?_)
  · rw [if_pos (bI1 c), if_neg c2, if_neg c3] at h; exact h
  · rw [if_pos (bI1 c), if_neg c2, if_pos c3] at h; exact h
  · rw [if_pos (bI1 c), if_pos c2] at h; exact h
  · rw [if_neg (bI0 c)] at h; exact h
theorem sm_State_isThere (s : Nat) (x : Int32) (hs : s ∈ stl) (h : Q (some (.int (bI (hTh I s x)))) I L (gg Lx ρ)) : am_run (d + 2) m_State_isThere [.ref s, .int x] I L (gg Lx ρ) Q := by
  refine run_in rfl rfl ⟨rfl, rfl⟩ (sz_State_isThere_0 s x hs (sm_State_hasLoad s x hs ?_))
  show am_W am_all (am_run (d + 1)) e_State_isThere Q 5 [.ref s, .int x] [.int (bI (hLo I s x))] I L (gg Lx ρ) 0 0
  refine sz_State_isThere_5 s x _ hs (fun c => ?_) (fun c => vin (bI1 c).1 (bI1 c).2.2 rfl (by decide)) (fun c c2 => ?_) (fun c c2 => ?_)
  · rw [bI_f (p := hTh I s x) fun z => bI0 c z.1] at h; exact h
  · rw [bI_f (p := hTh I s x) fun z => c2 z.2] at h; exact h
  · rw [bI_t (p := hTh I s x) ⟨bI1 c, c2⟩] at h; exact h
theorem sm_State_waits (s : Nat) (x : Int32) (hs : s ∈ stl) (h : Q (some (.int (bI (hWa I s x)))) I L (gg Lx ρ)) : am_run (d + 2) m_State_waits [.ref s, .int x] I L (gg Lx ρ) Q := by
  refine run_in rfl rfl ⟨rfl, rfl⟩ (sz_State_waits_0 s x hs (sm_State_hasLoad s x hs ?_))
  show am_W am_all (am_run (d + 1)) e_State_waits Q 5 [.ref s, .int x] [.int (bI (hLo I s x))] I L (gg Lx ρ) 0 0
  refine sz_State_waits_5 s x _ hs (fun c => ?_) (fun c => vin (bI1 c).1 (bI1 c).2.2 rfl (by decide)) (fun c c2 => ?_) (fun c c2 c3 => ?_) (fun c c2 c3 => ?_)
  · rw [bI_f (p := hWa I s x) fun z => bI0 c z.1] at h; exact h
  · rw [bI_f (p := hWa I s x) fun z => z.2.1 c2] at h; exact h
  · rw [bI_f (p := hWa I s x) fun z => z.2.2 c3] at h; exact h
  · rw [bI_t (p := hWa I s x) ⟨bI1 c, c2, c3⟩] at h; exact h
theorem sm_State_kindCarried (s : Nat) (x : Int32) (hs : s ∈ stl) (h : Q (some (.int (cKc I s x))) I L (gg Lx ρ)) : am_run (d + 2) m_State_kindCarried [.ref s, .int x] I L (gg Lx ρ) Q := by
  unfold cKc at h
  refine run_in rfl rfl ⟨rfl, rfl⟩ (sz_State_kindCarried_0 s x hs (sm_State_hasCarter s x hs ?_))
  show am_W am_all (am_run (d + 1)) e_State_kindCarried Q 5 [.ref s, .int x] [.int (bI (hCa I s x))] I L (gg Lx ρ) 0 0
  refine sz_State_kindCarried_5 s x _ hs (fun c => ?_) (fun c => vin (bI1 c).1 (bI1 c).2.2 rfl (by decide)) (fun c => sm_State_hasLoad s _ hs ?_)
  · rw [if_neg (fun z => bI0 c z.1)] at h; exact h
  · refine sz_State_kindCarried_18 s x _ hs (fun c2 => ?_) (fun _ => vin (bI1 c).1 (bI1 c).2.2 rfl (by decide)) (fun c2 => vin (bI1 c2).1 (bI1 c2).2.2 rfl (by decide)) (fun c2 => ?_)
    · rw [if_neg (fun z => bI0 c2 z.2)] at h; exact h
    · rw [if_pos ⟨bI1 c, bI1 c2⟩] at h; exact h
theorem sm_Finder_costFrom (x : Int32) (h : Q (some (.int (cCost I x))) I L (gg Lx ρ)) : am_run (d + 1) m_Finder_costFrom [.ref 25, .int x] I L (gg Lx ρ) Q := by
  unfold cCost at h
  refine run_in rfl rfl ⟨rfl, rfl⟩ (sz_Finder_costFrom_0 x (fun c => ?_) (fun c c2 => ?_) (fun c c2 => vin c c2 rfl (by decide)) (fun c c2 c3 => ?_) (fun c c2 c3 => ?_))
  · rw [if_neg (fun z => z.1 c)] at h; exact h
  · rw [if_neg (fun z => c2 z.2.1)] at h; exact h
  · rw [if_pos ⟨c, c2, c3⟩] at h; exact h
  · rw [if_neg (fun z => c3 z.2.2)] at h; exact h
theorem sm_Orders_bestAt (x : Int32) (h : Q (some (.int (cBest I x))) I L (gg Lx ρ)) : am_run (d + 1) m_Orders_bestAt [.ref 46, .int x] I L (gg Lx ρ) Q := by
  unfold cBest at h
  refine run_in rfl rfl ⟨rfl, rfl⟩ (sz_Orders_bestAt_0 x (fun c => ?_) (fun c c2 => ?_) (fun c c2 c3 => ?_) (fun c c2 c3 => vin c c3 rfl (by decide)) (fun c c2 c3 => ?_))
  · rw [if_neg (fun z => z.1 c)] at h; exact h
  · rw [if_neg (fun z => c2 z.2.1)] at h; exact h
  · rw [if_neg (fun z => c3 z.2.2)] at h; exact h
  · rw [if_pos ⟨c, c2, c3⟩] at h; exact h
theorem sm_Orders_firstAt (x : Int32) (h : Q (some (.int (cFirst I x))) I L (gg Lx ρ)) : am_run (d + 1) m_Orders_firstAt [.ref 46, .int x] I L (gg Lx ρ) Q := by
  unfold cFirst at h
  refine run_in rfl rfl ⟨rfl, rfl⟩ (sz_Orders_firstAt_0 x (fun c => ?_) (fun c c2 => ?_) (fun c c2 c3 => ?_) (fun c c2 c3 => vin c2 c3 rfl (by decide)) (fun c c2 c3 => ?_))
  · rw [if_neg (fun z => c z.1)] at h; exact h
  · rw [if_neg (fun z => z.2.1 c2)] at h; exact h
  · rw [if_neg (fun z => c3 z.2.2)] at h; exact h
  · rw [if_pos ⟨c, c2, c3⟩] at h; exact h
theorem sm_Planner_placeOf (x : Int32) (o : vp_in x 1000) (h : Q (some (.int (cPl L x))) I L (gg Lx ρ)) : am_run (d + 1) m_Planner_placeOf [.ref 36, .int x] I L (gg Lx ρ) Q :=
  run_in rfl rfl ⟨rfl, rfl⟩ (sz_Planner_placeOf_0 x o h)
theorem sm_Planner_hasLoad (x : Int32) (o : vp_in x 1000) (h : Q (some (.int (bI (hPh L x)))) I L (gg Lx ρ)) : am_run (d + 1) m_Planner_hasLoad [.ref 36, .int x] I L (gg Lx ρ) Q := by
  refine run_in rfl rfl ⟨rfl, rfl⟩ (sz_Planner_hasLoad_0 x o (fun c => ?_) (fun c => ?_))
  · rw [bI_f (p := hPh L x) fun z => z ((lgc _ _).2.1.mp c)] at h; exact h
  · rw [bI_t (p := hPh L x) fun z => c ((lgc _ _).2.1.mpr z)] at h; exact h
theorem sm_LL_canAsk (k f t : Int32) (h : Q (some (.int (bI (hAsk I k f t)))) I L (gg Lx ρ)) : am_run (d + 2) m_LL_canAsk [.ref 12, .int k, .int f, .int t] I L (gg Lx ρ) Q := by
  refine run_in rfl rfl ⟨rfl, rfl⟩ (sz_LL_canAsk_0 k f t (fun c => ?_) (fun c c2 => ?_) (fun c c2 => sm_Roads_hasPlace 95 f (by decide) (sz_LL_canAsk_22 k f t _ (fun c3 => ?_) (fun c3 => sm_Roads_hasPlace 95 t (by decide) (sz_LL_canAsk_36 k f t _ (fun c4 => ?_) (fun c4 => ?_))))))
  · rw [bI_f (p := hAsk I k f t) fun z => z.1 c] at h; exact h
  · rw [bI_f (p := hAsk I k f t) fun z => z.2.1 c2] at h; exact h
  · rw [bI_f (p := hAsk I k f t) fun z => bI0 c3 z.2.2.1] at h; exact h
  · rw [bI_f (p := hAsk I k f t) fun z => bI0 c4 z.2.2.2] at h; exact h
  · rw [bI_t (p := hAsk I k f t) ⟨c, c2, bI1 c3, bI1 c4⟩] at h; exact h
end SM
