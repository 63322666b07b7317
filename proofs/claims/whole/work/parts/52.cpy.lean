/-! ===== copies of roads; bits; a new road ===== -/
/-- what no drive changes of the Roads at r -/
def rdT (I : am_I) (r : Nat) (f : Nat → Int32) (n : Nat) : Prop := I r 5 = f 0 ∧ I r 6 = nI n ∧ I r 8 = f 6 ∧ ∀ j, j < n → I (r + 1) j = f (7 + 5 * j) ∧ I (r + 2) j = f (7 + 5 * j + 1) ∧ I (r + 3) j = f (7 + 5 * j + 2)
theorem rdR.T {I : am_I} {r n : Nat} {f f0 : Nat → Int32} (h : rdR I r f0 n) (h0 : f0 0 = f 0) (h6 : f0 6 = f 6) (hst : ∀ j, j < n → f0 (7 + 5 * j) = f (7 + 5 * j) ∧ f0 (7 + 5 * j + 1) = f (7 + 5 * j + 1) ∧ f0 (7 + 5 * j + 2) = f (7 + 5 * j + 2)) : rdT I r f n := by
  refine ⟨h.1.trans h0, h.2.1, h.2.2.2.1.trans h6, fun j hj => ?_⟩
  obtain ⟨q1, q2, q3, q4, q5⟩ := h.2.2.2.2 j hj
  obtain ⟨s1, s2, s3⟩ := hst j hj
  exact ⟨q1.trans s1, q2.trans s2, q3.trans s3⟩
section CPY
variable {d Lx : Nat} {ρ : List (Nat × Nat)} {Q : am_Q} {Rs : List (List (Nat × List Nat))}
theorem cpy17 {g h : Nat → Int32} {j : Nat} (hj : j < 17) : va_cpy g h 0 0 17 j = g j := by
  rw [pk_cpy_in (by omega) (by omega)]; simp
theorem sp_Roads_copyTale {I : am_I} {L : am_L} {r s n : Nat} {f : Nat → Int32} (hr : r ∈ rdl) (hs : s ∈ rdl) (hne : r ≠ s) (hR : rdR I s f n) (hT : rdT I r f n) (hn : n ≤ 17) (h : ∀ I', frc [r, r + 4, r + 5] I I' → rdR I' r f n → Q none I' L (gg Lx ρ)) : am_run (d + 1) m_Roads_copyTale [.ref r, .ref s] I L (gg Lx ρ) Q := by
  have hap := rdl_apart r hr s hs hne
  refine run_in rfl rfl ⟨rfl, rfl⟩ (sz_Roads_copyTale_0 r s hr hs (sz_Roads_copyTale_15 r s hr hs (sz_Roads_copyTale_30 r s hr hs (h _ (((frc.rf.r (by simp)).r (by simp)).u (by simp)) ⟨?_, ?_, ?_, ?_, fun j hj => ?_⟩))))
  · rw [am_u_nk (by decide), am_r_ne (by omega), am_r_ne (by omega)]; exact hT.1
  · rw [am_u_nk (by decide), am_r_ne (by omega), am_r_ne (by omega)]; exact hT.2.1
  · rw [am_u_at, am_r_ne (by omega), am_r_ne (by omega)]; exact hR.2.2.1
  · rw [am_u_nk (by decide), am_r_ne (by omega), am_r_ne (by omega)]; exact hT.2.2.1
  · obtain ⟨t1, t2, t3⟩ := hT.2.2.2 j hj
    obtain ⟨q1, q2, q3, q4, q5⟩ := hR.2.2.2.2 j hj
    refine ⟨?_, ?_, ?_, ?_, ?_⟩
    · rw [am_u_ne (by omega), am_r_ne (by omega), am_r_ne (by omega)]; exact t1
    · rw [am_u_ne (by omega), am_r_ne (by omega), am_r_ne (by omega)]; exact t2
    · rw [am_u_ne (by omega), am_r_ne (by omega), am_r_ne (by omega)]; exact t3
    · rw [am_u_ne (by omega), am_r_ne (by omega), am_r_at, cpy17 (by omega)]; exact q4
    · rw [am_u_ne (by omega), am_r_at, cpy17 (by omega), am_r_ne (by omega)]; exact q5
theorem sp_Roads_copy {I : am_I} {L : am_L} {r s n : Nat} {f : Nat → Int32} (hr : r ∈ rdl) (hs : s ∈ rdl) (hne : r ≠ s) (hR : rdR I s f n) (hn : n ≤ 17) (h : ∀ I', frc [r, r + 1, r + 2, r + 3, r + 4, r + 5] I I' → rdR I' r f n → Q none I' L (gg Lx ρ)) : am_run (d + 2) m_Roads_copy [.ref r, .ref s] I L (gg Lx ρ) Q := by
  have hap := rdl_apart r hr s hs hne
  refine run_in rfl rfl ⟨rfl, rfl⟩ (sz_Roads_copy_0 r s hr hs (sz_Roads_copy_15 r s hr hs (sz_Roads_copy_30 r s hr hs (sz_Roads_copy_45 r s hr hs ?_))))
  generalize hM : am_u (am_u (am_u (am_r (am_r (am_r I (r + 1) (va_cpy (I (s + 1)) (I (r + 1)) 0 0 17)) (r + 2) (va_cpy (am_r I (r + 1) (va_cpy (I (s + 1)) (I (r + 1)) 0 0 17) (s + 2)) (am_r I (r + 1) (va_cpy (I (s + 1)) (I (r + 1)) 0 0 17) (r + 2)) 0 0 17)) (r + 3) _) r 5 _) r 6 _) r 8 _ = M
  have hf : frc [r, r + 1, r + 2, r + 3, r + 4, r + 5] I M := by
    rw [← hM]; exact (((((frc.rf.r (by simp)).r (by simp)).r (by simp)).u (by simp)).u (by simp)).u (by simp)
  have hR' : rdR M s f n := rdR_fr (fun a h1 h2 => hf a (by simp; omega)) hR
  have hT : rdT M r f n := by
    rw [← hM]
    refine ⟨?_, ?_, ?_, fun j hj => ?_⟩
    · rw [am_u_nk (by decide), am_u_nk (by decide), am_u_at, am_r_ne (by omega), am_r_ne (by omega), am_r_ne (by omega)]; exact hR.1
    · rw [am_u_nk (by decide), am_u_at, am_u_ne (by omega), am_r_ne (by omega), am_r_ne (by omega), am_r_ne (by omega)]; exact hR.2.1
    · rw [am_u_at, am_u_ne (by omega), am_u_ne (by omega), am_r_ne (by omega), am_r_ne (by omega), am_r_ne (by omega)]; exact hR.2.2.2.1
    · obtain ⟨q1, q2, q3, q4, q5⟩ := hR.2.2.2.2 j hj
      refine ⟨?_, ?_, ?_⟩
      · rw [am_u_ne (by omega), am_u_ne (by omega), am_u_ne (by omega), am_r_ne (by omega), am_r_ne (by omega), am_r_at, cpy17 (by omega)]; exact q1
      · rw [am_u_ne (by omega), am_u_ne (by omega), am_u_ne (by omega), am_r_ne (by omega), am_r_at, cpy17 (by omega), am_r_ne (by omega)]; exact q2
      · rw [am_u_ne (by omega), am_u_ne (by omega), am_u_ne (by omega), am_r_at, cpy17 (by omega), am_r_ne (by omega), am_r_ne (by omega)]; exact q3
  refine sp_Roads_copyTale hr hs hne hR' hT hn (fun I' f1 hR1 => sz_Roads_copy_74 r s hr hs (h I' (hf.tr (f1.w (by simp))) hR1))
/-- one road more -/
def nr (f : Nat → Int32) (n : Nat) (a b c v : Int32) : Nat → Int32 := fun i => if i = 7 + 5 * n then a else if i = 7 + 5 * n + 1 then b else if i = 7 + 5 * n + 2 then c else if i = 7 + 5 * n + 3 then v else if i = 7 + 5 * n + 4 then 0 else f i
theorem nr_o {f : Nat → Int32} {n i : Nat} {a b c v : Int32} (h : i < 7 + 5 * n ∨ 7 + 5 * n + 4 < i) : nr f n a b c v i = f i := by
  unfold nr; rw [if_neg (by omega), if_neg (by omega), if_neg (by omega), if_neg (by omega), if_neg (by omega)]
theorem nr_0 {f : Nat → Int32} {n : Nat} {a b c v : Int32} : nr f n a b c v (7 + 5 * n) = a := if_pos rfl
theorem nr_1 {f : Nat → Int32} {n : Nat} {a b c v : Int32} : nr f n a b c v (7 + 5 * n + 1) = b := by
  unfold nr; rw [if_neg (by omega), if_pos rfl]
theorem nr_2 {f : Nat → Int32} {n : Nat} {a b c v : Int32} : nr f n a b c v (7 + 5 * n + 2) = c := by
  unfold nr; rw [if_neg (by omega), if_neg (by omega), if_pos rfl]
theorem nr_3 {f : Nat → Int32} {n : Nat} {a b c v : Int32} : nr f n a b c v (7 + 5 * n + 3) = v := by
  unfold nr; rw [if_neg (by omega), if_neg (by omega), if_neg (by omega), if_pos rfl]
theorem nr_4 {f : Nat → Int32} {n : Nat} {a b c v : Int32} : nr f n a b c v (7 + 5 * n + 4) = 0 := by
  unfold nr; rw [if_neg (by omega), if_neg (by omega), if_neg (by omega), if_neg (by omega), if_pos rfl]
theorem wfN_nr {f : Nat → Int32} {n a b c v : Nat} (h : wfN f n) (hn : n < 17) (ha : a < 10) (hb : b < 10) (hab : a ≠ b) (hc1 : 1 ≤ c) (hc9 : c ≤ 9) (hv : v ≤ 7) : wfN (nr f n (nI a) (nI b) (nI c) (nI v)) (n + 1) := by
  refine ⟨by omega, fun j hj => ?_⟩
  by_cases e : j = n
  · subst e
    unfold rA rB rD rL
    rw [nr_0, nr_1, nr_2, nr_3, nI_clamp (by omega), nI_clamp (by omega), nI_clamp (by omega), nI_clamp (by omega)]
    exact ⟨rfl, ha, rfl, hb, hab, rfl, hc1, hc9, rfl, hv⟩
  · have w := h.2 j (by omega)
    unfold rA rB rD rL at w ⊢
    rw [nr_o (i := 7 + 5 * j) (by omega), nr_o (i := 7 + 5 * j + 1) (by omega), nr_o (i := 7 + 5 * j + 2) (by omega), nr_o (i := 7 + 5 * j + 3) (by omega)]
    exact w
theorem hPl_in {I : am_I} {r v P : Nat} (hP : P ≤ 10) (e : I r 5 = nI P) (hv : v < P) : hPl I r (nI v) := ⟨nI_pos (by omega), by rw [e]; exact nI_lt hv (by omega), nI_lt (b := 10) (by omega) (by decide)⟩
theorem sp_Roads_add {I : am_I} {L : am_L} {r n : Nat} {f : Nat → Int32} {a b c v : Int32} (hr : r ∈ rdl) (hR : rdR I r f n) (hn : n < 17) (h : ∀ I', frc [r, r + 1, r + 2, r + 3, r + 4, r + 5] I I' → (hPl I r a ∧ hPl I r b → rdR I' r (nr f n a b c v) (n + 1)) → Q none I' L (gg Lx ρ)) : am_run (d + 2) m_Roads_add [.ref r, .int a, .int b, .int c, .int v] I L (gg Lx ρ) Q := by
  have hs := hR.2.1
  have hcl : (nI n).toNatClampNeg = n := nI_clamp (by omega)
  have hin : vp_in (nI n) 17 := vp_in_nI hn (by decide)
  have m1 : ∀ {k : Nat} {w : Int32} {J : am_I}, am_u J (r + 1) k w r = J r := fun {k w J} => am_u_ne (by omega)
  have m2 : ∀ {k : Nat} {w : Int32} {J : am_I}, am_u J (r + 2) k w r = J r := fun {k w J} => am_u_ne (by omega)
  have m3 : ∀ {k : Nat} {w : Int32} {J : am_I}, am_u J (r + 3) k w r = J r := fun {k w J} => am_u_ne (by omega)
  have m4 : ∀ {k : Nat} {w : Int32} {J : am_I}, am_u J (r + 4) k w r = J r := fun {k w J} => am_u_ne (by omega)
  have m5 : ∀ {k : Nat} {w : Int32} {J : am_I}, am_u J (r + 5) k w r = J r := fun {k w J} => am_u_ne (by omega)
  refine run_in rfl rfl ⟨rfl, rfl⟩ (sy_Roads_add_0 (d := d) r a b c v hr (fun z => absurd (by rw [hs]; exact nI_lt (show n < 17 by omega) (by decide)) z) (fun _ z => h I frc.rf (fun y => absurd y.1 z)) (fun _ _ z => h I frc.rf (fun y => absurd y.2 z)) (fun _ _ _ => ?_) (fun _ _ _ => ?_) (fun _ _ _ => ?_) (fun _ _ _ => ?_) (fun _ _ _ => ?_) (fun _ _ _ => ?_))
  · simp only [m1, m2, m3, m4, m5, hs]; exact hin
  · simp only [m1, m2, m3, m4, m5, hs]; exact hin
  · simp only [m1, m2, m3, m4, m5, hs]; exact hin
  · simp only [m1, m2, m3, m4, m5, hs]; exact hin
  · simp only [m1, m2, m3, m4, m5, hs]; exact hin
  · simp only [m1, m2, m3, m4, m5, hs, hcl]
    refine h _ ((((((frc.rf.u (by simp)).u (by simp)).u (by simp)).u (by simp)).u (by simp)).u (by simp)) (fun _ => ⟨?_, ?_, ?_, ?_, fun j hj => ?_⟩)
    · rw [am_u_nk (by decide), m5, m4, m3, m2, m1, nr_o (by omega)]; exact hR.1
    · rw [am_u_at, nI_1]
    · rw [am_u_nk (by decide), m5, m4, m3, m2, m1, nr_o (by omega)]; exact hR.2.2.1
    · rw [am_u_nk (by decide), m5, m4, m3, m2, m1, nr_o (by omega)]; exact hR.2.2.2.1
    · rw [am_u_ne (show r + 1 ≠ r by omega), am_u_ne (show r + 2 ≠ r by omega), am_u_ne (show r + 3 ≠ r by omega), am_u_ne (show r + 4 ≠ r by omega), am_u_ne (show r + 5 ≠ r by omega), am_u_ne (show r + 1 ≠ r + 5 by omega), am_u_ne (show r + 1 ≠ r + 4 by omega), am_u_ne (show r + 1 ≠ r + 3 by omega), am_u_ne (show r + 1 ≠ r + 2 by omega), am_u_ne (show r + 2 ≠ r + 5 by omega), am_u_ne (show r + 2 ≠ r + 4 by omega), am_u_ne (show r + 2 ≠ r + 3 by omega), am_u_ne (show r + 3 ≠ r + 5 by omega), am_u_ne (show r + 3 ≠ r + 4 by omega), am_u_ne (show r + 4 ≠ r + 5 by omega)]
      by_cases e : j = n
      · subst e
        rw [am_u_at, am_u_at, am_u_at, am_u_at, am_u_at, nr_0, nr_1, nr_2, nr_3, nr_4]
        exact ⟨rfl, rfl, rfl, rfl, rfl⟩
      · rw [am_u_nk e, am_u_nk e, am_u_nk e, am_u_nk e, am_u_nk e, am_u_ne (show r + 2 ≠ r + 1 by omega), am_u_ne (show r + 3 ≠ r + 2 by omega), am_u_ne (show r + 3 ≠ r + 1 by omega), am_u_ne (show r + 4 ≠ r + 3 by omega), am_u_ne (show r + 4 ≠ r + 2 by omega), am_u_ne (show r + 4 ≠ r + 1 by omega), am_u_ne (show r + 5 ≠ r + 4 by omega), am_u_ne (show r + 5 ≠ r + 3 by omega), am_u_ne (show r + 5 ≠ r + 2 by omega), am_u_ne (show r + 5 ≠ r + 1 by omega), nr_o (i := 7 + 5 * j) (by omega), nr_o (i := 7 + 5 * j + 1) (by omega), nr_o (i := 7 + 5 * j + 2) (by omega), nr_o (i := 7 + 5 * j + 3) (by omega), nr_o (i := 7 + 5 * j + 4) (by omega)]
        exact hR.2.2.2.2 j (by omega)
def pop8 (x : Nat) : Nat := x % 2 + x / 2 % 2 + x / 4 % 2 + x / 8 % 2 + x / 16 % 2 + x / 32 % 2 + x / 64 % 2 + x / 128 % 2
def bcE (x0 : Int32) : Int32 := ((((((((x0 - (((Int32.toUInt32 x0 >>> (Int32.toUInt32 1 &&& Int32.toUInt32 31)).toInt32) &&& 1431655765)) &&& 858993459) + (((Int32.toUInt32 (x0 - (((Int32.toUInt32 x0 >>> (Int32.toUInt32 1 &&& Int32.toUInt32 31)).toInt32) &&& 1431655765)) >>> (Int32.toUInt32 2 &&& Int32.toUInt32 31)).toInt32) &&& 858993459)) + ((Int32.toUInt32 (((x0 - (((Int32.toUInt32 x0 >>> (Int32.toUInt32 1 &&& Int32.toUInt32 31)).toInt32) &&& 1431655765)) &&& 858993459) + (((Int32.toUInt32 (x0 - (((Int32.toUInt32 x0 >>> (Int32.toUInt32 1 &&& Int32.toUInt32 31)).toInt32) &&& 1431655765)) >>> (Int32.toUInt32 2 &&& Int32.toUInt32 31)).toInt32) &&& 858993459)) >>> (Int32.toUInt32 4 &&& Int32.toUInt32 31)).toInt32)) &&& 252645135) + ((Int32.toUInt32 (((((x0 - (((Int32.toUInt32 x0 >>> (Int32.toUInt32 1 &&& Int32.toUInt32 31)).toInt32) &&& 1431655765)) &&& 858993459) + (((Int32.toUInt32 (x0 - (((Int32.toUInt32 x0 >>> (Int32.toUInt32 1 &&& Int32.toUInt32 31)).toInt32) &&& 1431655765)) >>> (Int32.toUInt32 2 &&& Int32.toUInt32 31)).toInt32) &&& 858993459)) + ((Int32.toUInt32 (((x0 - (((Int32.toUInt32 x0 >>> (Int32.toUInt32 1 &&& Int32.toUInt32 31)).toInt32) &&& 1431655765)) &&& 858993459) + (((Int32.toUInt32 (x0 - (((Int32.toUInt32 x0 >>> (Int32.toUInt32 1 &&& Int32.toUInt32 31)).toInt32) &&& 1431655765)) >>> (Int32.toUInt32 2 &&& Int32.toUInt32 31)).toInt32) &&& 858993459)) >>> (Int32.toUInt32 4 &&& Int32.toUInt32 31)).toInt32)) &&& 252645135) >>> (Int32.toUInt32 8 &&& Int32.toUInt32 31)).toInt32)) + ((Int32.toUInt32 ((((((x0 - (((Int32.toUInt32 x0 >>> (Int32.toUInt32 1 &&& Int32.toUInt32 31)).toInt32) &&& 1431655765)) &&& 858993459) + (((Int32.toUInt32 (x0 - (((Int32.toUInt32 x0 >>> (Int32.toUInt32 1 &&& Int32.toUInt32 31)).toInt32) &&& 1431655765)) >>> (Int32.toUInt32 2 &&& Int32.toUInt32 31)).toInt32) &&& 858993459)) + ((Int32.toUInt32 (((x0 - (((Int32.toUInt32 x0 >>> (Int32.toUInt32 1 &&& Int32.toUInt32 31)).toInt32) &&& 1431655765)) &&& 858993459) + (((Int32.toUInt32 (x0 - (((Int32.toUInt32 x0 >>> (Int32.toUInt32 1 &&& Int32.toUInt32 31)).toInt32) &&& 1431655765)) >>> (Int32.toUInt32 2 &&& Int32.toUInt32 31)).toInt32) &&& 858993459)) >>> (Int32.toUInt32 4 &&& Int32.toUInt32 31)).toInt32)) &&& 252645135) + ((Int32.toUInt32 (((((x0 - (((Int32.toUInt32 x0 >>> (Int32.toUInt32 1 &&& Int32.toUInt32 31)).toInt32) &&& 1431655765)) &&& 858993459) + (((Int32.toUInt32 (x0 - (((Int32.toUInt32 x0 >>> (Int32.toUInt32 1 &&& Int32.toUInt32 31)).toInt32) &&& 1431655765)) >>> (Int32.toUInt32 2 &&& Int32.toUInt32 31)).toInt32) &&& 858993459)) + ((Int32.toUInt32 (((x0 - (((Int32.toUInt32 x0 >>> (Int32.toUInt32 1 &&& Int32.toUInt32 31)).toInt32) &&& 1431655765)) &&& 858993459) + (((Int32.toUInt32 (x0 - (((Int32.toUInt32 x0 >>> (Int32.toUInt32 1 &&& Int32.toUInt32 31)).toInt32) &&& 1431655765)) >>> (Int32.toUInt32 2 &&& Int32.toUInt32 31)).toInt32) &&& 858993459)) >>> (Int32.toUInt32 4 &&& Int32.toUInt32 31)).toInt32)) &&& 252645135) >>> (Int32.toUInt32 8 &&& Int32.toUInt32 31)).toInt32)) >>> (Int32.toUInt32 16 &&& Int32.toUInt32 31)).toInt32)) &&& 63)
theorem bcE_n : ∀ x, x < 256 → bcE (nI x) = nI (pop8 x) := by decide +kernel
theorem sp_bitCount {I : am_I} {L : am_L} {x : Nat} (hx : x < 256) (h : Q (some (.int (nI (pop8 x)))) I L (gg Lx ρ)) : am_run (d + 1) m_Integer_bitCount [.int (nI x)] I L (gg Lx ρ) Q :=
  run_in rfl rfl ⟨rfl, rfl⟩ (sz_Integer_bitCount_0 _ (show Q (some (.int (bcE (nI x)))) I L (gg Lx ρ) from (bcE_n x hx).symm ▸ h))
theorem bt8 : ∀ x, x < 256 → 0 < x → (nI x &&& (nI x - 1)) = nI (x &&& (x - 1)) ∧ pop8 (x &&& (x - 1)) + 1 = pop8 x ∧ (x &&& (x - 1)) < x := by decide +kernel
theorem lp_bits {I : am_I} {L : am_L} {C : am_C} {x0 : Int32} : ∀ N x c, x ≤ N → x < 256 → Q (some (.int (nI (c + pop8 x)))) I L (gg Lx ρ) → am_W am_all C e_Model_bits Q 4 [.int x0, .int (nI c), .int (nI x)] [] I L (gg Lx ρ) 0 0
  | N, 0, c, _, _, h => sz_Model_bits_4 _ _ _ (fun _ => h) (fun z => absurd rfl z)
  | 0, x + 1, c, hx, _, h => absurd hx (by omega)
  | N + 1, x + 1, c, hx, h8, h => by
    obtain ⟨e1, e2, e3⟩ := bt8 (x + 1) h8 (by omega)
    refine sz_Model_bits_4 _ _ _ (fun z => absurd z (nI_ne0 (by omega) (by omega))) (fun _ => ?_)
    rw [e1, nI_1]
    refine lp_bits N _ (c + 1) (by omega) (by omega) ?_
    rw [show c + 1 + pop8 ((x + 1) &&& (x + 1 - 1)) = c + pop8 (x + 1) by omega]
    exact h
theorem sp_Model_bits {I : am_I} {L : am_L} {x : Nat} (hx : x < 256) (h : Q (some (.int (nI (pop8 x)))) I L (gg Lx ρ)) : am_run (d + 1) m_Model_bits [.int (nI x)] I L (gg Lx ρ) Q :=
  run_in rfl rfl ⟨rfl, rfl⟩ (sz_Model_bits_0 _ (lp_bits x x 0 (Nat.le_refl _) hx (by rw [Nat.zero_add]; exact h)))
theorem orb : ∀ l, l < 8 → ∀ x, x < 2 ^ l → nI x ||| (1 <<< (nI l &&& 31)) = nI (x + 2 ^ l) := by decide +kernel
theorem pStB_n (Rs : List (List (Nat × List Nat))) (f : Nat → Int32) (n : Nat) : ∀ l, l ≤ 8 → ∃ x, x < 2 ^ l ∧ pStB Rs f n l = nI x
  | 0, _ => ⟨0, by decide, rfl⟩
  | l + 1, hl => by
    obtain ⟨x, hx, e⟩ := pStB_n Rs f n l (by omega)
    unfold pStB
    by_cases z : pStk Rs f n l = true
    · rw [if_pos z, e, orb l (by omega) x hx]
      exact ⟨_, by rw [Nat.pow_succ]; omega, rfl⟩
    · rw [if_neg z]; exact ⟨x, by rw [Nat.pow_succ]; omega, e⟩
theorem pStB_8 (Rs : List (List (Nat × List Nat))) (f : Nat → Int32) (n : Nat) {m : Nat} (hm : m ≤ 8) : ∃ x, x < 256 ∧ pStB Rs f n m = nI x := by
  obtain ⟨x, hx, e⟩ := pStB_n Rs f n m hm
  exact ⟨x, Nat.lt_of_lt_of_le hx (show 2 ^ m ≤ 2 ^ 8 from Nat.pow_le_pow_right (by decide) hm), e⟩
/-- how many would be stuck with a road more -/
def pNS (Rs : List (List (Nat × List Nat))) (f : Nat → Int32) (n m dd a b : Nat) : Nat := pop8 (pStB Rs (nr f n (nI a) (nI b) (nI dd) 0) (n + 1) m).toNatClampNeg
theorem pop8_le (x : Nat) : pop8 x ≤ 8 := by unfold pop8; omega
def btI (g : Nat → Nat → Nat) (a : Nat) : Nat → Nat → Int32 × Int32 × Nat → Int32 × Int32 × Nat
  | 0, _, st => st
  | k + 1, b, st => btI g a k (b + 1) (if g a b < st.2.2 then (nI a, nI b, g a b) else st)
def btO (g : Nat → Nat → Nat) (P : Nat) : Nat → Nat → Int32 × Int32 × Nat → Int32 × Int32 × Nat
  | 0, _, st => st
  | k + 1, a, st => btO g P k (a + 1) (btI g a (P - (a + 1)) (a + 1) st)
end CPY
