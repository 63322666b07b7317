/-! ===== Roads ===== -/
/-- only cells of A are changed -/
def fr (A : Nat → Prop) (I I' : am_I) : Prop := ∀ a, ¬ A a → I' a = I a
theorem rdl_apart : ∀ r ∈ rdl, ∀ s ∈ rdl, r ≠ s → r + 5 < s ∨ s + 5 < r := by decide +kernel
theorem rdl_lt : ∀ r ∈ rdl, 30 ≤ r ∧ r + 5 < 186 := by decide +kernel
theorem stl_apart : ∀ r ∈ stl, ∀ s ∈ stl, r ≠ s → r + 14 < s ∨ s + 14 < r := by decide +kernel
theorem stl_lt : ∀ r ∈ stl, 94 ≤ r ∧ r + 14 < 186 := by decide +kernel
/-- the Roads at r in I are as those at r' in I' -/
def rdEq (I : am_I) (r : Nat) (I' : am_I) (r' : Nat) : Prop := (∀ k, k < 17 → I (r + 1) k = I' (r' + 1) k ∧ I (r + 2) k = I' (r' + 2) k ∧ I (r + 3) k = I' (r' + 3) k ∧ I (r + 4) k = I' (r' + 4) k ∧ I (r + 5) k = I' (r' + 5) k) ∧ I r 5 = I' r' 5 ∧ I r 6 = I' r' 6 ∧ I r 7 = I' r' 7 ∧ I r 8 = I' r' 8
theorem rdEq.symm {I I' : am_I} {r r' : Nat} (h : rdEq I r I' r') : rdEq I' r' I r := ⟨fun k hk => ⟨(h.1 k hk).1.symm, (h.1 k hk).2.1.symm, (h.1 k hk).2.2.1.symm, (h.1 k hk).2.2.2.1.symm, (h.1 k hk).2.2.2.2.symm⟩, h.2.1.symm, h.2.2.1.symm, h.2.2.2.1.symm, h.2.2.2.2.symm⟩
theorem rdEq.trans {I I' I2 : am_I} {r r' r2 : Nat} (h : rdEq I r I' r') (g : rdEq I' r' I2 r2) : rdEq I r I2 r2 := ⟨fun k hk => ⟨(h.1 k hk).1.trans (g.1 k hk).1, (h.1 k hk).2.1.trans (g.1 k hk).2.1, (h.1 k hk).2.2.1.trans (g.1 k hk).2.2.1, (h.1 k hk).2.2.2.1.trans (g.1 k hk).2.2.2.1, (h.1 k hk).2.2.2.2.trans (g.1 k hk).2.2.2.2⟩, h.2.1.trans g.2.1, h.2.2.1.trans g.2.2.1, h.2.2.2.1.trans g.2.2.2.1, h.2.2.2.2.trans g.2.2.2.2⟩
theorem rdEq.kept {I I' : am_I} {r : Nat} (h : ∀ a, r ≤ a → a ≤ r + 5 → I' a = I a) : rdEq I' r I r := by
  refine ⟨fun k hk => ⟨?_, ?_, ?_, ?_, ?_⟩, ?_, ?_, ?_, ?_⟩ <;> rw [h _ (by omega) (by omega)]
theorem ix_lt {x : Int32} {n : Nat} (hn : n < 2 ^ 31) (h0 : ¬ x < 0) (h1 : x < nI n) : ∃ j, j < n ∧ x = nI j := by
  rcases pk_ix x hn with h | h | h
  · exact absurd h h0
  · exact absurd h1 (Int32.not_lt.mpr h)
  · exact h
section SPR
variable {d Lx : Nat} {ρ : List (Nat × Nat)} {I : am_I} {L : am_L} {Q : am_Q} {r sz : Nat} {x : Int32}
theorem sp_Roads_clear (hr : r ∈ rdl) (h : Q none (am_u (am_u (am_u I r 5 0) r 6 0) r 7 0) L (gg Lx ρ)) : am_run (d + 1) m_Roads_clear [.ref r] I L (gg Lx ρ) Q :=
  ⟨e_Roads_clear, rfl, ⟨rfl, rfl⟩, sz_Roads_clear_0 r hr h⟩
theorem sp_Roads_hasRoad (hr : r ∈ rdl) (hs : I r 6 = nI sz) (hz : sz ≤ 17)
    (h1 : ∀ j, j < sz → x = nI j → Q (some (.int 1)) I L (gg Lx ρ)) (h0 : (∀ j, j < sz → x ≠ nI j) → Q (some (.int 0)) I L (gg Lx ρ)) : am_run (d + 1) m_Roads_hasRoad [.ref r, .int x] I L (gg Lx ρ) Q := by
  refine ⟨e_Roads_hasRoad, rfl, ⟨rfl, rfl⟩, ?_⟩
  refine sz_Roads_hasRoad_0 r x hr (fun c => h0 fun j hj e => ?_) (fun c c2 => h0 fun j hj e => ?_) (fun c c2 c3 => h0 fun j hj e => ?_) (fun c c2 c3 => ?_)
  · subst e; exact nI_pos (by omega) c
  · subst e; rw [hs] at c2; exact c2 (nI_lt hj (by omega))
  · subst e; exact c3 (nI_lt (show j < 17 by omega) (by decide))
  · rw [hs] at c2
    obtain ⟨j, hj, e⟩ := ix_lt (by omega) c c2
    exact h1 j hj e
theorem sp_Roads_hasPlace (hr : r ∈ rdl) (hs : I r 5 = nI sz) (hz : sz ≤ 10)
    (h1 : ∀ j, j < sz → x = nI j → Q (some (.int 1)) I L (gg Lx ρ)) (h0 : (∀ j, j < sz → x ≠ nI j) → Q (some (.int 0)) I L (gg Lx ρ)) : am_run (d + 1) m_Roads_hasPlace [.ref r, .int x] I L (gg Lx ρ) Q := by
  refine ⟨e_Roads_hasPlace, rfl, ⟨rfl, rfl⟩, ?_⟩
  refine sz_Roads_hasPlace_0 r x hr (fun c => h0 fun j hj e => ?_) (fun c c2 => h0 fun j hj e => ?_) (fun c c2 c3 => h0 fun j hj e => ?_) (fun c c2 c3 => ?_)
  · subst e; exact nI_pos (by omega) c
  · subst e; rw [hs] at c2; exact c2 (nI_lt hj (by omega))
  · subst e; exact c3 (nI_lt (show j < 10 by omega) (by decide))
  · rw [hs] at c2
    obtain ⟨j, hj, e⟩ := ix_lt (by omega) c c2
    exact h1 j hj e
/-- the place at the other end, or -1 -/
def pAcross (one other : Nat → Int32) (j : Nat) (p : Int32) : Int32 := if one j = p then other j else if other j = p then one j else -1
theorem sp_Roads_across {p : Int32} (hr : r ∈ rdl) (hs : I r 6 = nI sz) (hz : sz ≤ 17)
    (h1 : ∀ j, j < sz → x = nI j → Q (some (.int (pAcross (I (r + 1)) (I (r + 2)) j p))) I L (gg Lx ρ)) (h0 : (∀ j, j < sz → x ≠ nI j) → Q (some (.int (-1))) I L (gg Lx ρ)) : am_run (d + 2) m_Roads_across [.ref r, .int x, .int p] I L (gg Lx ρ) Q := by
  refine ⟨e_Roads_across, rfl, ⟨rfl, rfl⟩, ?_⟩
  refine sz_Roads_across_0 r x p hr (sp_Roads_hasRoad hr hs hz (fun j hj e => ?_) (fun hn => ?_))
  · have hcl : x.toNatClampNeg = j := by rw [e]; exact nI_clamp (by omega)
    have hin : vp_in x 17 := by rw [e]; exact vp_in_nI (by omega) (by decide)
    have h1 := h1 j hj e
    unfold pAcross at h1
    refine sz_Roads_across_5 r x p 1 hr (fun _ => hin) (fun _ c2 c3 => ?_) (fun _ c2 c3 => ?_) (fun _ c2 => ?_) (fun c => absurd c (by decide))
    · rw [hcl] at c2 c3; rw [if_neg c2, if_neg c3] at h1; exact h1
    · rw [hcl] at c2 c3 ⊢; rw [if_neg c2, if_pos c3] at h1; exact h1
    · rw [hcl] at c2 ⊢; rw [if_pos c2] at h1; exact h1
  · exact sz_Roads_across_5 r x p 0 hr (fun c => absurd rfl c) (fun c => absurd rfl c) (fun c => absurd rfl c) (fun c => absurd rfl c) (fun _ => h0 hn)
theorem sp_Roads_note {j : Nat} {v : Int32} (hr : r ∈ rdl) (hs : I r 6 = nI sz) (hz : sz ≤ 17) (hj : j < sz)
    (h : ∀ I', fr (fun a => a = r ∨ a = r + 4 ∨ a = r + 5) I I' → I' (r + 4) = (fun k => if k = j then v else I (r + 4) k) → I' (r + 5) = (fun k => if k = j then I (r + 5) j + 1 else I (r + 5) k) → I' r = (fun k => if k = 7 then I r 7 + 1 else I r k) → Q none I' L (gg Lx ρ)) : am_run (d + 2) m_Roads_note [.ref r, .int (nI j), .int v] I L (gg Lx ρ) Q := by
  refine ⟨e_Roads_note, rfl, ⟨rfl, rfl⟩, ?_⟩
  refine sz_Roads_note_0 r (nI j) v hr (sp_Roads_hasRoad hr hs hz (fun i hi e => ?_) (fun hn => absurd rfl (hn j hj)))
  have hcl : (nI j).toNatClampNeg = j := nI_clamp (by omega)
  refine sz_Roads_note_5 r (nI j) v 1 hr (fun c => absurd c (by decide)) (fun _ => vp_in_nI (by omega) (by decide)) (fun _ => ?_)
  rw [hcl]
  have n1 : r + 4 ≠ r + 5 := by omega
  have n2 : r + 4 ≠ r := by omega
  have n3 : r + 5 ≠ r := by omega
  refine h _ (fun a ha => ?_) ?_ ?_ ?_
  · have a1 : a ≠ r := fun e => ha (Or.inl e)
    have a2 : a ≠ r + 4 := fun e => ha (Or.inr (Or.inl e))
    have a3 : a ≠ r + 5 := fun e => ha (Or.inr (Or.inr e))
    rw [am_u_ne a1, am_u_ne a3, am_u_ne a2]
  · rw [am_u_ne n2, am_u_ne n1]
    show (if r + 4 = r + 4 then _ else _) = _
    rw [if_pos rfl]
  · rw [am_u_ne n3]
    show (if r + 5 = r + 5 then _ else _) = _
    rw [if_pos rfl, am_u_ne n1.symm]
  · show (if r = r then _ else _) = _
    rw [if_pos rfl, am_u_ne n3.symm, am_u_ne n2.symm]
theorem sp_Roads_copyTale {s : Nat} (hr : r ∈ rdl) (hs : s ∈ rdl) (hn : r ≠ s)
    (h : ∀ I', fr (fun a => a = r ∨ a = r + 4 ∨ a = r + 5) I I' → (∀ k, k < 17 → I' (r + 4) k = I (s + 4) k ∧ I' (r + 5) k = I (s + 5) k) → I' r = (fun k => if k = 7 then I s 7 else I r k) → Q none I' L (gg Lx ρ)) : am_run (d + 1) m_Roads_copyTale [.ref r, .ref s] I L (gg Lx ρ) Q := by
  refine ⟨e_Roads_copyTale, rfl, ⟨rfl, rfl⟩, ?_⟩
  have hap := rdl_apart r hr s hs hn
  refine sz_Roads_copyTale_0 r s hr hs (sz_Roads_copyTale_15 r s hr hs (sz_Roads_copyTale_30 r s hr hs (h _ (fun a ha => ?_) (fun k hk => ⟨?_, ?_⟩) ?_)))
  · have a1 : a ≠ r := fun e => ha (Or.inl e)
    have a2 : a ≠ r + 4 := fun e => ha (Or.inr (Or.inl e))
    have a3 : a ≠ r + 5 := fun e => ha (Or.inr (Or.inr e))
    rw [am_u_ne a1, am_r_ne a3, am_r_ne a2]
  · rw [am_u_ne (by omega), am_r_ne (by omega), am_r_at, pk_cpy_in (by omega) (by omega)]
    simp
  · rw [am_u_ne (by omega), am_r_at, pk_cpy_in (by omega) (by omega), am_r_ne (by omega)]
    simp
  · show (if r = r then _ else _) = _
    rw [if_pos rfl, am_r_ne (by omega), am_r_ne (by omega), am_r_ne (by omega), am_r_ne (by omega)]
theorem sp_Roads_copy {s : Nat} (hr : r ∈ rdl) (hs : s ∈ rdl) (hn : r ≠ s)
    (h : ∀ I', fr (fun a => r ≤ a ∧ a ≤ r + 5) I I' → rdEq I' r I s → Q none I' L (gg Lx ρ)) : am_run (d + 2) m_Roads_copy [.ref r, .ref s] I L (gg Lx ρ) Q := by
  refine ⟨e_Roads_copy, rfl, ⟨rfl, rfl⟩, ?_⟩
  have hap := rdl_apart r hr s hs hn
  refine sz_Roads_copy_0 r s hr hs (sz_Roads_copy_15 r s hr hs (sz_Roads_copy_30 r s hr hs (sz_Roads_copy_45 r s hr hs (sp_Roads_copyTale hr hs hn (fun I' h1 h2 h3 => sz_Roads_copy_74 r s hr hs (h I' (fun a ha => ?_) ⟨fun k hk => ⟨?_, ?_, ?_, ?_, ?_⟩, ?_, ?_, ?_, ?_⟩))))))
  · rw [h1 a (by omega), am_u_ne (by omega), am_u_ne (by omega), am_u_ne (by omega), am_r_ne (by omega), am_r_ne (by omega), am_r_ne (by omega)]
  · rw [h1 _ (by omega), am_u_ne (by omega), am_u_ne (by omega), am_u_ne (by omega), am_r_ne (by omega), am_r_ne (by omega), am_r_at, pk_cpy_in (by omega) (by omega)]
    simp
  · rw [h1 _ (by omega), am_u_ne (by omega), am_u_ne (by omega), am_u_ne (by omega), am_r_ne (by omega), am_r_at, pk_cpy_in (by omega) (by omega), am_r_ne (by omega)]
    simp
  · rw [h1 _ (by omega), am_u_ne (by omega), am_u_ne (by omega), am_u_ne (by omega), am_r_at, pk_cpy_in (by omega) (by omega), am_r_ne (by omega), am_r_ne (by omega)]
    simp
  · rw [(h2 k hk).1, am_u_ne (by omega), am_u_ne (by omega), am_u_ne (by omega), am_r_ne (by omega), am_r_ne (by omega), am_r_ne (by omega)]
  · rw [(h2 k hk).2, am_u_ne (by omega), am_u_ne (by omega), am_u_ne (by omega), am_r_ne (by omega), am_r_ne (by omega), am_r_ne (by omega)]
  · rw [h3]
    show (if (5 : Nat) = 7 then _ else _) = _
    rw [if_neg (by decide), am_u_nk (by decide), am_u_nk (by decide), am_u_at, am_r_ne (by omega), am_r_ne (by omega), am_r_ne (by omega)]
  · rw [h3]
    show (if (6 : Nat) = 7 then _ else _) = _
    rw [if_neg (by decide), am_u_nk (by decide), am_u_at, am_u_ne (by omega), am_r_ne (by omega), am_r_ne (by omega), am_r_ne (by omega)]
  · rw [h3]
    show (if (7 : Nat) = 7 then _ else _) = _
    rw [if_pos rfl, am_u_ne (by omega), am_u_ne (by omega), am_u_ne (by omega), am_r_ne (by omega), am_r_ne (by omega), am_r_ne (by omega)]
  · rw [h3]
    show (if (8 : Nat) = 7 then _ else _) = _
    rw [if_neg (by decide), am_u_at, am_u_ne (by omega), am_u_ne (by omega), am_r_ne (by omega), am_r_ne (by omega), am_r_ne (by omega)]
/-- how many of the first n -/
def cnt (P : Nat → Prop) [DecidablePred P] : Nat → Nat
  | 0 => 0
  | n + 1 => cnt P n + (if P n then 1 else 0)
theorem cnt_le (P : Nat → Prop) [DecidablePred P] : ∀ n, cnt P n ≤ n
  | 0 => Nat.le_refl _
  | n + 1 => by
    have := cnt_le P n
    unfold cnt
    split <;> omega
theorem lp_Roads_countUnused (hr : r ∈ rdl) (hs : I r 6 = nI sz) (hz : sz ≤ 17) (h : Q (some (.int (nI (cnt (fun j => I (r + 4) j = 0) sz)))) I L (gg Lx ρ)) {C : am_C} : ∀ n j, j + n = sz → am_W am_all C e_Roads_countUnused Q 4 [.ref r, .int (nI (cnt (fun j => I (r + 4) j = 0) j)), .int (nI j)] [] I L (gg Lx ρ) 0 0
  | 0, j, e => by
    have ej : j = sz := by omega
    subst ej
    refine sz_Roads_countUnused_4 r _ _ hr (fun _ => h) (fun c => ?_) (fun c => ?_) (fun c => ?_) (fun c => ?_) <;> exact absurd c (by rw [hs]; exact nI_nlt (Nat.le_refl _) (by omega))
  | n + 1, j, e => by
    have hcl : (nI j).toNatClampNeg = j := nI_clamp (by omega)
    have ih := lp_Roads_countUnused hr hs hz h (C := C) n (j + 1) (by omega)
    rw [nI_succ] at ih
    unfold cnt at ih
    refine sz_Roads_countUnused_4 r _ _ hr (fun c => absurd (by rw [hs]; exact nI_lt (by omega) (by omega)) c) (fun _ c => absurd (nI_lt (show j < 17 by omega) (by decide)) c) (fun _ _ => vp_in_nI (by omega) (by decide)) (fun _ _ c => ?_) (fun _ _ c => ?_)
    · rw [hcl] at c
      rw [if_neg c, Nat.add_zero] at ih
      exact ih
    · rw [hcl] at c
      rw [if_pos c, nI_succ] at ih
      exact ih
theorem sp_Roads_countUnused (hr : r ∈ rdl) (hs : I r 6 = nI sz) (hz : sz ≤ 17) (h : Q (some (.int (nI (cnt (fun j => I (r + 4) j = 0) sz)))) I L (gg Lx ρ)) : am_run (d + 1) m_Roads_countUnused [.ref r] I L (gg Lx ρ) Q :=
  ⟨e_Roads_countUnused, rfl, ⟨rfl, rfl⟩, sz_Roads_countUnused_0 r hr (lp_Roads_countUnused hr hs hz h sz 0 (by omega))⟩
theorem sp_Roads_add {a b c v : Int32} (hr : r ∈ rdl) (hs : I r 6 = nI sz) (hz : sz < 17)
    (h : ∀ I', fr (fun a => r ≤ a ∧ a ≤ r + 5) I I' → I' (r + 1) = (fun k => if k = sz then a else I (r + 1) k) → I' (r + 2) = (fun k => if k = sz then b else I (r + 2) k) → I' (r + 3) = (fun k => if k = sz then c else I (r + 3) k) → I' (r + 4) = (fun k => if k = sz then v else I (r + 4) k) → I' (r + 5) = (fun k => if k = sz then 0 else I (r + 5) k) → I' r = (fun k => if k = 6 then nI (sz + 1) else I r k) → Q none I' L (gg Lx ρ)) : am_run (d + 1) m_Roads_add [.ref r, .int a, .int b, .int c, .int v] I L (gg Lx ρ) Q := by
  refine ⟨e_Roads_add, rfl, ⟨rfl, rfl⟩, ?_⟩
  have hcl : (nI sz).toNatClampNeg = sz := nI_clamp (by omega)
  have hin : vp_in (nI sz) 17 := vp_in_nI hz (by decide)
  have m1 : ∀ {k : Nat} {w : Int32} {J : am_I}, am_u J (r + 1) k w r = J r := fun {k w J} => am_u_ne (by omega)
  have m2 : ∀ {k : Nat} {w : Int32} {J : am_I}, am_u J (r + 2) k w r = J r := fun {k w J} => am_u_ne (by omega)
  have m3 : ∀ {k : Nat} {w : Int32} {J : am_I}, am_u J (r + 3) k w r = J r := fun {k w J} => am_u_ne (by omega)
  have m4 : ∀ {k : Nat} {w : Int32} {J : am_I}, am_u J (r + 4) k w r = J r := fun {k w J} => am_u_ne (by omega)
  have m5 : ∀ {k : Nat} {w : Int32} {J : am_I}, am_u J (r + 5) k w r = J r := fun {k w J} => am_u_ne (by omega)
  refine sz_Roads_add_0 r a b c v hr (fun z => absurd (by rw [hs]; exact nI_lt (show sz < 17 by omega) (by decide)) z) (fun _ => ?_) (fun _ => ?_) (fun _ => ?_) (fun _ => ?_) (fun _ => ?_) (fun _ => ?_)
  · simp only [m1, m2, m3, m4, m5, hs]; exact hin
  · simp only [m1, m2, m3, m4, m5, hs]; exact hin
  · simp only [m1, m2, m3, m4, m5, hs]; exact hin
  · simp only [m1, m2, m3, m4, m5, hs]; exact hin
  · simp only [m1, m2, m3, m4, m5, hs]; exact hin
  · simp only [m1, m2, m3, m4, m5, hs, hcl]
    refine h _ (fun q hq => ?_) ?_ ?_ ?_ ?_ ?_ ?_
    · rw [am_u_ne (by omega), am_u_ne (by omega), am_u_ne (by omega), am_u_ne (by omega), am_u_ne (by omega), am_u_ne (by omega)]
    · rw [am_u_ne (by omega), am_u_ne (by omega), am_u_ne (by omega), am_u_ne (by omega), am_u_ne (by omega)]
      exact if_pos rfl
    · rw [am_u_ne (by omega), am_u_ne (by omega), am_u_ne (by omega), am_u_ne (by omega)]
      refine (if_pos rfl).trans (funext fun k => ?_)
      rw [am_u_ne (by omega)]
    · rw [am_u_ne (by omega), am_u_ne (by omega), am_u_ne (by omega)]
      refine (if_pos rfl).trans (funext fun k => ?_)
      rw [am_u_ne (by omega), am_u_ne (by omega)]
    · rw [am_u_ne (by omega), am_u_ne (by omega)]
      refine (if_pos rfl).trans (funext fun k => ?_)
      rw [am_u_ne (by omega), am_u_ne (by omega), am_u_ne (by omega)]
    · rw [am_u_ne (by omega)]
      refine (if_pos rfl).trans (funext fun k => ?_)
      rw [am_u_ne (by omega), am_u_ne (by omega), am_u_ne (by omega), am_u_ne (by omega)]
    · refine (if_pos rfl).trans (funext fun k => ?_)
      simp only [m1, m2, m3, m4, m5, nI_1]
end SPR
