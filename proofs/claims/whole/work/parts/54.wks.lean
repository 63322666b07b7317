/-! ===== weeks (rows wb_ out of the kit's BITS.to-paste) ===== -/
theorem wb_tb (n : Nat) : (lN n).toBitVec = BitVec.ofNat 64 n := rfl
theorem wb_inj {a b : Int64} (h : a.toBitVec = b.toBitVec) : a = b := Int64.toBitVec_inj.mp h
theorem wb_tn {n : Nat} (h : n < 2 ^ 64) : (lN n).toBitVec.toNat = n := by rw [wb_tb, BitVec.toNat_ofNat, Nat.mod_eq_of_lt h]
theorem wb_of (x : Int64) : ∃ n, n < 2 ^ 64 ∧ x = lN n := ⟨x.toBitVec.toNat, x.toBitVec.isLt, wb_inj (by rw [wb_tb]; simp)⟩
theorem wb_of32 (x : Int32) : ∃ n, n < 2 ^ 32 ∧ x = nI n := ⟨x.toBitVec.toNat, x.toBitVec.isLt, Int32.toBitVec_inj.mp (by show _ = BitVec.ofNat 32 _; simp)⟩
theorem wb_c : ∀ k, k < 64 → ((nI k).toInt64 &&& 63) = lN k := by decide +kernel
theorem wb_cu : ∀ k, k < 64 → ((nI k).toInt64.toUInt64 &&& Int64.toUInt64 63) = UInt64.ofNat k := by decide +kernel
theorem wb_sm : ∀ k, k < 64 → (BitVec.ofNat 64 k).smod 64 = BitVec.ofNat 64 k := by decide +kernel
theorem wb_pw {a b : Nat} (h : a ≤ b) : 2 ^ b = 2 ^ a * 2 ^ (b - a) := by rw [← Nat.pow_add]; congr 1; omega
theorem wb_lt2 {a b : Nat} (h : a < b) : 2 ^ a < 2 ^ b := Nat.pow_lt_pow_right (by decide) h
theorem wb_mod (n : Nat) : lN n = lN (n % 2 ^ 64) := wb_inj (by rw [wb_tb, wb_tb]; apply BitVec.eq_of_toNat_eq; rw [BitVec.toNat_ofNat, BitVec.toNat_ofNat, Nat.mod_mod])
theorem wb_shr {n k : Nat} (hn : n < 2 ^ 64) (hk : k < 64) : ((lN n).toUInt64 >>> ((nI k).toInt64.toUInt64 &&& Int64.toUInt64 63)).toInt64 = lN (n / 2 ^ k) := by
  rw [wb_cu k hk]
  apply wb_inj
  apply BitVec.eq_of_toNat_eq
  show ((lN n).toUInt64 >>> UInt64.ofNat k).toNat = (BitVec.ofNat 64 _).toNat
  have h1 : (UInt64.ofNat k).toNat = k := by
    show (BitVec.ofNat 64 k).toNat = k
    rw [BitVec.toNat_ofNat, Nat.mod_eq_of_lt (by omega)]
  have h2 : (lN n).toUInt64.toNat = n := wb_tn hn
  rw [UInt64.toNat_shiftRight, h1, h2, Nat.mod_eq_of_lt hk, Nat.shiftRight_eq_div_pow, BitVec.toNat_ofNat, Nat.mod_eq_of_lt (Nat.lt_of_le_of_lt (Nat.div_le_self _ _) hn)]
theorem wb_shl (n : Nat) {k : Nat} (hk : k < 64) : lN n <<< ((nI k).toInt64 &&& 63) = lN (n * 2 ^ k) := by
  rw [wb_c k hk]
  apply wb_inj
  rw [Int64.toBitVec_shiftLeft, wb_tb, wb_tb, wb_tb, wb_sm k hk]
  apply BitVec.eq_of_toNat_eq
  rw [BitVec.shiftLeft_eq', BitVec.toNat_shiftLeft, BitVec.toNat_ofNat, BitVec.toNat_ofNat, BitVec.toNat_ofNat, Nat.mod_eq_of_lt (show k < 2 ^ 64 by omega), Nat.shiftLeft_eq, Nat.mul_mod, Nat.mod_mod, ← Nat.mul_mod]
theorem wb_and {a b : Nat} (ha : a < 2 ^ 64) (hb : b < 2 ^ 64) : lN a &&& lN b = lN (a &&& b) := by
  apply wb_inj
  rw [Int64.toBitVec_and, wb_tb, wb_tb, wb_tb]
  apply BitVec.eq_of_toNat_eq
  rw [BitVec.toNat_and, BitVec.toNat_ofNat, BitVec.toNat_ofNat, BitVec.toNat_ofNat, Nat.mod_eq_of_lt ha, Nat.mod_eq_of_lt hb, Nat.mod_eq_of_lt (Nat.and_lt_two_pow _ hb)]
theorem wb_or {a b : Nat} (ha : a < 2 ^ 64) (hb : b < 2 ^ 64) : lN a ||| lN b = lN (a ||| b) := by
  apply wb_inj
  rw [Int64.toBitVec_or, wb_tb, wb_tb, wb_tb]
  apply BitVec.eq_of_toNat_eq
  rw [BitVec.toNat_or, BitVec.toNat_ofNat, BitVec.toNat_ofNat, BitVec.toNat_ofNat, Nat.mod_eq_of_lt ha, Nat.mod_eq_of_lt hb, Nat.mod_eq_of_lt (Nat.or_lt_two_pow ha hb)]
theorem wb_mask {n k : Nat} (hn : n < 2 ^ 64) (hk : k < 64) : lN n &&& lN (2 ^ k - 1) = lN (n % 2 ^ k) := by
  rw [wb_and hn (by have := wb_lt2 hk; omega), Nat.and_two_pow_sub_one_eq_mod]
theorem wb_a1 {n : Nat} (hn : n < 2 ^ 64) : lN n &&& 1 = lN (n % 2) := wb_mask (k := 1) hn (by decide)
theorem wb_bit {n k : Nat} (hn : n < 2 ^ 64) (hk : k < 64) : ((lN n).toUInt64 >>> ((nI k).toInt64.toUInt64 &&& Int64.toUInt64 63)).toInt64 &&& 1 = lN (n / 2 ^ k % 2) := by
  rw [wb_shr hn hk, wb_a1 (Nat.lt_of_le_of_lt (Nat.div_le_self _ _) hn)]
def dr (X : Nat) : Nat := (X * 1103515245 + 12345) % 2147483648
theorem dr_lt (X : Nat) : dr X < 2147483648 := Nat.mod_lt _ (by decide)
theorem cDr_n {X : Nat} (h : X < 2147483648) : cDr (nI X) = nI (dr X) := by
  unfold cDr dr
  rw [nI_l (by omega), show (1103515245 : Int64) = lN 1103515245 from rfl, show (12345 : Int64) = lN 12345 from rfl, show (2147483647 : Int64) = lN (2 ^ 31 - 1) from rfl, lN_mul, lN_add, wb_mask (by omega) (by decide), lN_i]
theorem mDr_n {X : Nat} (h : X < 2147483648) : mDr (lN X) = lN (dr X) := by
  unfold mDr dr
  rw [show (1103515245 : Int64) = lN 1103515245 from rfl, show (12345 : Int64) = lN 12345 from rfl, show (2147483648 : Int64) = lN 2147483648 from rfl, lN_mul, lN_add]
  exact pk_lRem (by omega) (by decide) (by decide)
theorem mDv_n {X n : Nat} (h : X < 2147483648) (h0 : 0 < n) (hn : n < 2 ^ 31) : mDv (lN X) (nI n) = nI (dr X / 65536 % n) := by
  have hd := dr_lt X
  unfold mDv
  rw [mDr_n h, nI_l hn, show (65536 : Int64) = lN 65536 from rfl, pk_lDiv (by omega) (by decide) (by decide), pk_lRem (by omega) h0 (by omega), lN_i]
theorem cDv_n {X n : Nat} (h : X < 2147483648) (h0 : 0 < n) (hn : n < 2 ^ 31) : (nI X / 65536) - (nI X / 65536) / nI n * nI n = nI (X / 65536 % n) := by
  rw [show (65536 : Int32) = nI 65536 from rfl, pk_div (by omega) (by decide) (by decide)]
  exact pk_rem (by omega) h0 hn
def wkK (X : Nat) : Nat := 1 + dr X / 65536 % 7
def wkF (P X : Nat) : Nat := dr (dr X) / 65536 % P
def wkT (P X : Nat) : Nat := dr (dr (dr X)) / 65536 % P
/-- one cart -/
def wkS (Rs : List (List (Nat × List Nat))) (n P : Nat) (s : Nat × (Nat → Int32) × Nat × Nat) : Nat × (Nat → Int32) × Nat × Nat :=
  if wkF P s.1 = wkT P s.1 then (dr (dr (dr s.1)), s.2)
  else if pD Rs s.2.1 n (nI (wkK s.1)) (wkT P s.1) (wkF P s.1) < 1000000 then (dr (dr (dr s.1)), pG Rs s.2.1 n (nI (wkK s.1)) (wkT P s.1) (wkF P s.1), s.2.2.1 + 1, s.2.2.2 + pD Rs s.2.1 n (nI (wkK s.1)) (wkT P s.1) (wkF P s.1))
  else (dr (dr (dr s.1)), s.2)
def wkC (Rs : List (List (Nat × List Nat))) (n P : Nat) : Nat → Nat × (Nat → Int32) × Nat × Nat → Nat × (Nat → Int32) × Nat × Nat
  | 0, s => s
  | k + 1, s => wkC Rs n P k (wkS Rs n P s)
def wkW (Rs : List (List (Nat × List Nat))) (n P N : Nat) (f : Nat → Int32) : Nat → Nat × Nat × Nat → Nat × Nat × Nat
  | 0, s => s
  | k + 1, s => wkW Rs n P N f k ((wkC Rs n P N (s.1, f, s.2)).1, (wkC Rs n P N (s.1, f, s.2)).2.2)
/-- a tale of f: what may differ -/
def tal (f f' : Nat → Int32) : Prop := ∀ i, i < 4 ∨ i = 5 ∨ i = 6 ∨ 92 ≤ i ∨ (7 ≤ i ∧ (i % 5 = 2 ∨ i % 5 = 3 ∨ i % 5 = 4)) → f' i = f i
theorem tal.rf {f : Nat → Int32} : tal f f := fun _ _ => rfl
theorem tal.tr {f f' f2 : Nat → Int32} (h : tal f f') (g : tal f' f2) : tal f f2 := fun i z => (g i z).trans (h i z)
theorem tal_nt {f : Nat → Int32} {j : Nat} {k : Int32} (hj : j < 17) : tal f (nt f j k) := fun i z => nt_o (by omega) (by omega) (by omega)
theorem tal_nts {k : Int32} : ∀ (w : List Nat) (f : Nat → Int32), (∀ j ∈ w, j < 17) → tal f (nts k f w)
  | [], _, _ => tal.rf
  | j :: w, f, h => (tal_nt (h j List.mem_cons_self)).tr (tal_nts w (nt f j k) fun i hi => h i (List.mem_cons_of_mem _ hi))
theorem wy_lt {a b c : Nat → Nat} {u v : Nat → Bool} {D : Nat → Nat} {n t : Nat} : ∀ m p, ∀ j ∈ wy a b c u v D n t m p, j < n
  | 0, _, j, h => absurd h (by simp [wy])
  | m + 1, p, j, h => by
    unfold wy at h
    by_cases e : p = t
    · rw [if_pos e] at h; exact absurd h (by simp)
    · rw [if_neg e] at h
      cases ef : fnd (okR a b c u v D p) n 0 with
      | none => rw [ef] at h; exact absurd h (by simp)
      | some i =>
        rw [ef] at h
        rcases List.mem_cons.mp h with h | h
        · rw [h]; obtain ⟨_, h2, _⟩ := fnd_some ef; omega
        · exact wy_lt m _ j h
theorem tal_pG {Rs : List (List (Nat × List Nat))} {f : Nat → Int32} {n t p : Nat} {k : Int32} (hn : n ≤ 17) : tal f (pG Rs f n k t p) := tal_nts _ f fun j hj => by have := wy_lt _ _ j hj; omega
theorem wfN_nts {n kk : Nat} {k : Int32} (hk : k = nI kk) (hk7 : kk ≤ 7) : ∀ (w : List Nat) (f : Nat → Int32), wfN f n → wfN (nts k f w) n
  | [], _, h => h
  | j :: w, f, h => wfN_nts hk hk7 w (nt f j k) (wfN_nt h hk hk7)
theorem wfN_pG {Rs : List (List (Nat × List Nat))} {f : Nat → Int32} {n t p kk : Nat} {k : Int32} (h : wfN f n) (hk : k = nI kk) (hk7 : kk ≤ 7) : wfN (pG Rs f n k t p) n := wfN_nts hk hk7 _ f h
theorem rdR.tal {I : am_I} {r n : Nat} {f f' : Nat → Int32} (h : rdR I r f' n) (ht : tal f f') : rdT I r f n :=
  h.T (ht 0 (by omega)) (ht 6 (by omega)) fun j _ => ⟨ht _ (by omega), ht _ (by omega), ht _ (by omega)⟩
section WKS
variable {d Lx : Nat} {ρ : List (Nat × Nat)} {Q : am_Q} {Rs : List (List (Nat × List Nat))}
/-- the class in weeks -/
def wkR (I : am_I) (n : Nat) (s : Nat × (Nat → Int32) × Nat × Nat) : Prop := I 25 11 = nI s.1 ∧ s.1 < 2147483648 ∧ I 25 9 = nI s.2.2.1 ∧ I 25 10 = nI s.2.2.2 ∧ rdR I 30 s.2.1 n
theorem lp_wkC {I : am_I} {f : Nat → Int32} {P n C m N : Nat} {x2 x5 : Int32} (hS : stS I 94 f n C m) (hwS : wfS Rs f P n C m) (hP1 : 1 ≤ P) (hN : N ≤ 30) (hw : wfRs Rs) (hC : RCc I ρ Rs) {K : Nat × (Nat → Int32) × Nat × Nat → Prop}
    (h : ∀ I' L' (x6 x7 x8 x9 x10 : Value) s, frc cells25 I I' → wkR I' n s → tal f s.2.1 → K s → am_W am_all (am_run (d + 5)) e_Finder_runWeeks Q 48 [.ref 25, .ref 94, .int x2, .int (nI N), .int (nI P), .int (x5 + 1), x6, x7, x8, x9, x10] [] I' L' (gg Lx ρ) 0 0) : ∀ k c I' L' (x7 x8 x9 x10 : Value) s, c + k = N → frc cells25 I I' → wkR I' n s → wfN s.2.1 n → tal f s.2.1 → K (wkC Rs n P k s) → am_W am_all (am_run (d + 5)) e_Finder_runWeeks Q 68 [.ref 25, .ref 94, .int x2, .int (nI N), .int (nI P), .int x5, .int (nI c), x7, x8, x9, x10] [] I' L' (gg Lx ρ) 0 0
  | 0, c, I', L', x7, x8, x9, x10, s, e, hf, hr, hwn, ht, hK => by
    have e : c = N := e
    subst e
    have hno : ¬ nI c < nI c := nI_nlt (Nat.le_refl _) (by omega)
    exact sy_Finder_runWeeks_68 (d := d + 4) 94 _ _ _ _ _ _ _ _ _ (by decide) (fun _ => h I' L' _ _ _ _ _ s hf hr ht hK) (fun z => absurd z hno) (fun z => absurd z hno) (fun z => absurd z hno)
  | k + 1, c, I', L', x7, x8, x9, x10, s, e, hf, hr, hwn, ht, hK => by
    have hP := hwS.P
    obtain ⟨r1, r2, r3, r4, r5⟩ := hr
    have d1 := dr_lt s.1
    have d2 := dr_lt (dr s.1)
    have d3 := dr_lt (dr (dr s.1))
    have q1 : cDr (I' 25 11) = nI (dr s.1) := by rw [r1, cDr_n r2]
    have q2 : cDr (cDr (I' 25 11)) = nI (dr (dr s.1)) := by rw [q1, cDr_n d1]
    have q3 : cDr (cDr (cDr (I' 25 11))) = nI (dr (dr (dr s.1))) := by rw [q2, cDr_n d2]
    have eK : (1 : Int32) + ((nI (dr s.1) / 65536) - (nI (dr s.1) / 65536) / 7 * 7) = nI (wkK s.1) := by
      have := cDv_n (n := 7) d1 (by decide) (by decide)
      rw [show (7 : Int32) = nI 7 from rfl, this, show (1 : Int32) = nI 1 from rfl, nI_add]; rfl
    have eF : (nI (dr (dr s.1)) / 65536) - (nI (dr (dr s.1)) / 65536) / nI P * nI P = nI (wkF P s.1) := cDv_n d2 (by omega) (by omega)
    have eT : (nI (dr (dr (dr s.1))) / 65536) - (nI (dr (dr (dr s.1))) / 65536) / nI P * nI P = nI (wkT P s.1) := cDv_n d3 (by omega) (by omega)
    have hF : wkF P s.1 < P := Nat.mod_lt _ (by omega)
    have hT : wkT P s.1 < P := Nat.mod_lt _ (by omega)
    have hK7 : wkK s.1 ≤ 7 := by have := Nat.mod_lt (dr s.1 / 65536) (show 7 > 0 by decide); unfold wkK; omega
    have hFT : nI (wkF P s.1) = nI (wkT P s.1) ↔ wkF P s.1 = wkT P s.1 := nI_eq (by omega) (by omega)
    have hyes : nI c < nI N := nI_lt (by omega) (by omega)
    unfold wkC at hK
    unfold wkS at hK
    refine sy_Finder_runWeeks_68 (d := d + 4) 94 _ _ _ _ _ _ _ _ _ (by decide) (fun z => absurd hyes z) (fun _ => nI_ne0 (by omega) (by omega)) (fun _ z => ?_) (fun _ z => ?_)
    · rw [q3, q2] at z ⊢
      rw [q1]
      rw [eF, eT] at z ⊢
      rw [eK]
      have hne : ¬ wkF P s.1 = wkT P s.1 := fun y => z (hFT.mpr y)
      rw [if_neg hne] at hK
      have hf2 : frc cells25 I (am_u (am_u (am_u I' 25 11 (nI (dr s.1))) 25 11 (nI (dr (dr s.1)))) 25 11 (nI (dr (dr (dr s.1))))) := ((hf.u (by decide)).u (by decide)).u (by decide)
      have hR2 : rdR (am_u (am_u (am_u I' 25 11 (nI (dr s.1))) 25 11 (nI (dr (dr s.1)))) 25 11 (nI (dr (dr (dr s.1))))) 30 s.2.1 n := rdR_fr (fun a g1 g2 => by rw [am_u_ne (by omega), am_u_ne (by omega), am_u_ne (by omega)]) r5
      have hC2 := RCc_fr (hf2 21 (by decide)) (fun q hq => hf2 q (fun z => by have := cells25_A q z; omega)) hC
      refine sp_Finder_go (d := d) (r := 30) (by decide) hR2 hwn hw hC2 ((ht 0 (by omega)).trans hP.1) hP.2 hT (by omega) rfl hK7 (fun hlt I3 L3 f3 l3 hR3 => ?_) (fun hge I3 L3 f3 l3 => ?_)
      · rw [if_pos hlt] at hK
        have hf3 : frc cells25 I I3 := hf2.tr (f3.w (by decide))
        have e25 : I3 25 = am_u (am_u (am_u I' 25 11 (nI (dr s.1))) 25 11 (nI (dr (dr s.1)))) 25 11 (nI (dr (dr (dr s.1)))) 25 := f3 25 (by decide)
        refine sy_Finder_runWeeks_129 (d := d + 4) 94 _ _ _ _ _ _ _ _ _ _ (by decide) (fun y => absurd (show nI _ < 0 by rw [y]; decide) (nI_pos (show pD Rs s.2.1 n (nI (wkK s.1)) (wkT P s.1) (wkF P s.1) < 2 ^ 31 by omega))) (fun _ => ?_)
        rw [nI_1]
        refine lp_wkC hS hwS hP1 hN hw hC h k (c + 1) _ L3 _ _ _ _ (dr (dr (dr s.1)), pG Rs s.2.1 n (nI (wkK s.1)) (wkT P s.1) (wkF P s.1), s.2.2.1 + 1, s.2.2.2 + pD Rs s.2.1 n (nI (wkK s.1)) (wkT P s.1) (wkF P s.1)) (by omega) ((hf3.u (by decide)).u (by decide)) ⟨?_, d3, ?_, ?_, ?_⟩ (wfN_pG hwn rfl hK7) (ht.tr (tal_pG hwn.1)) hK
        · rw [am_u_nk (by decide), am_u_nk (by decide), e25, am_u_at]
        · rw [am_u_nk (by decide), am_u_at, e25, am_u_nk (by decide), am_u_nk (by decide), am_u_nk (by decide), r3, nI_1]
        · rw [am_u_at, e25, am_u_nk (by decide), am_u_nk (by decide), am_u_nk (by decide), r4, nI_add]
        · exact rdR_fr (fun a g1 g2 => by rw [am_u_ne (by omega), am_u_ne (by omega)]) hR3
      · rw [if_neg hge] at hK
        have hf3 : frc cells25 I I3 := hf2.tr (f3.w (by decide))
        have e25 : I3 25 = am_u (am_u (am_u I' 25 11 (nI (dr s.1))) 25 11 (nI (dr (dr s.1)))) 25 11 (nI (dr (dr (dr s.1)))) 25 := f3 25 (by decide)
        refine sy_Finder_runWeeks_129 (d := d + 4) 94 _ _ _ _ _ _ _ _ _ _ (by decide) (fun _ => ?_) (fun y => absurd rfl y)
        rw [nI_1]
        refine lp_wkC hS hwS hP1 hN hw hC h k (c + 1) _ L3 _ _ _ _ (dr (dr (dr s.1)), s.2) (by omega) hf3 ⟨?_, d3, ?_, ?_, ?_⟩ hwn ht hK
        · rw [e25, am_u_at]
        · rw [e25, am_u_nk (by decide), am_u_nk (by decide), am_u_nk (by decide)]; exact r3
        · rw [e25, am_u_nk (by decide), am_u_nk (by decide), am_u_nk (by decide)]; exact r4
        · exact rdR_fr (fun a g1 g2 => f3 a (by simp; omega)) hR2
    · rw [q3, q2] at z ⊢
      rw [q1]
      rw [eF, eT] at z ⊢
      rw [eK]
      rw [if_pos (hFT.mp z)] at hK
      rw [nI_1]
      refine lp_wkC hS hwS hP1 hN hw hC h k (c + 1) _ L' _ _ _ _ (dr (dr (dr s.1)), s.2) (by omega) (((hf.u (by decide)).u (by decide)).u (by decide)) ⟨?_, d3, ?_, ?_, ?_⟩ hwn ht hK
      · rw [am_u_at]
      · rw [am_u_nk (by decide), am_u_nk (by decide), am_u_nk (by decide)]; exact r3
      · rw [am_u_nk (by decide), am_u_nk (by decide), am_u_nk (by decide)]; exact r4
      · exact rdR_fr (fun a g1 g2 => by rw [am_u_ne (by omega), am_u_ne (by omega), am_u_ne (by omega)]) r5
theorem lp_wkW {I : am_I} {f : Nat → Int32} {P n C m N M : Nat} (hS : stS I 94 f n C m) (hwS : wfS Rs f P n C m) (hP1 : 1 ≤ P) (hN : N ≤ 30) (hM : M ≤ 20) (hw : wfRs Rs) (hC : RCc I ρ Rs) {K : Nat × Nat × Nat → Prop}
    (h : ∀ I' L' s, frc cells25 I I' → I' 25 9 = nI s.2.1 → I' 25 10 = nI s.2.2 → K s → Q none I' L' (gg Lx ρ)) : ∀ k w I' L' (x6 x7 x8 x9 x10 : Value) (s : Nat × Nat × Nat), w + k = M → frc cells25 I I' → I' 25 11 = nI s.1 → s.1 < 2147483648 → I' 25 9 = nI s.2.1 → I' 25 10 = nI s.2.2 → rdT I' 30 f n → K (wkW Rs n P N f k s) → am_W am_all (am_run (d + 5)) e_Finder_runWeeks Q 48 [.ref 25, .ref 94, .int (nI M), .int (nI N), .int (nI P), .int (nI w), x6, x7, x8, x9, x10] [] I' L' (gg Lx ρ) 0 0
  | 0, w, I', L', x6, x7, x8, x9, x10, s, e, hf, h11, hX, h9, h10, hT, hK => by
    have e : w = M := e
    subst e
    have hno : ¬ nI w < nI w := nI_nlt (Nat.le_refl _) (by omega)
    exact sy_Finder_runWeeks_48 (d := d + 4) 94 _ _ _ _ _ _ _ _ _ (by decide) (fun _ => h I' L' s hf h9 h10 hK) (fun z => absurd z hno)
  | k + 1, w, I', L', x6, x7, x8, x9, x10, s, e, hf, h11, hX, h9, h10, hT, hK => by
    have hS' : stS I' 94 f n C m := stS_fr (fun q g1 g2 => hf q (fun z => by have := cells25_A q z; omega)) hS
    obtain ⟨hn1, hn16, hwf⟩ := hwS.n
    refine sy_Finder_runWeeks_48 (d := d + 4) 94 _ _ _ _ _ _ _ _ _ (by decide) (fun z => absurd (nI_lt (by omega) (by omega)) z) (fun _ => ?_)
    refine sp_Roads_copyTale (d := d + 4) (r := 30) (s := 95) (by decide) (by decide) (by decide) hS'.1 hT (by omega) (fun I1 f1 hR1 => ?_)
    refine sy_Finder_runWeeks_65 (d := d + 4) 94 _ _ _ _ _ _ _ _ _ (by decide) ?_
    unfold wkW at hK
    have e25 : I1 25 = I' 25 := f1 25 (by decide)
    refine lp_wkC (K := fun s2 => K (wkW Rs n P N f k (s2.1, s2.2.2))) hS hwS hP1 hN hw hC (fun I2 L2 y6 y7 y8 y9 y10 s2 f2 r2 t2 k2 => ?_) N 0 I1 L' _ _ _ _ (s.1, f, s.2) (by omega) (hf.tr (f1.w (by decide))) ⟨by rw [e25]; exact h11, hX, by rw [e25]; exact h9, by rw [e25]; exact h10, hR1⟩ hwf tal.rf hK
    rw [nI_1]
    exact lp_wkW hS hwS hP1 hN hM hw hC h k (w + 1) I2 L2 _ _ _ _ _ (s2.1, s2.2.2) (by omega) f2 r2.1 r2.2.1 r2.2.2.1 r2.2.2.2.1 (r2.2.2.2.2.tal t2) k2
def pWk (Rs : List (List (Nat × List Nat))) (f : Nat → Int32) (P n : Nat) (a b w : Int32) : Int32 :=
  if 0 < P ∧ ¬ a < 1 ∧ ¬ 20 < a ∧ ¬ b < 1 ∧ ¬ 30 < b ∧ ¬ w < 0 ∧ ¬ 1 < w then (if w = 0 then nI (wkW Rs n P b.toNatClampNeg f a.toNatClampNeg ((f 5).toNatClampNeg, 0, 0)).2.1 else nI (wkW Rs n P b.toNatClampNeg f a.toNatClampNeg ((f 5).toNatClampNeg, 0, 0)).2.2) else -1
theorem hNet_n {I : am_I} {f : Nat → Int32} {P n C m : Nat} (hS : stS I 94 f n C m) (hwS : wfS Rs f P n C m) : hNet I 94 ↔ 0 < P := by
  have hP := hwS.P
  unfold hNet
  rw [hS.1.1, hP.1]
  exact nI_ltI (a := 0) (by decide) (by omega)
theorem sp_LL_weeks {I : am_I} {L : am_L} {f : Nat → Int32} {P n C m : Nat} {a b w : Int32} (hS : stS I 94 f n C m) (hwS : wfS Rs f P n C m) (hw : wfRs Rs) (hC : RCc I ρ Rs)
    (h : ∀ I' L', frA I I' → Q (some (.int (pWk Rs f P n a b w))) I' L' (gg Lx ρ)) : am_run (d + 7) m_LL_weeks [.ref 12, .int a, .int b, .int w] I L (gg Lx ρ) Q := by
  have hP := hwS.P
  have hnet := hNet_n hS hwS
  obtain ⟨hn1, hn16, hwf⟩ := hwS.n
  unfold pWk at h
  refine run_in rfl rfl ⟨rfl, rfl⟩ (sy_LL_weeks_0 (d := d + 5) _ _ _ (fun z => ?_) (fun _ z => ?_) (fun _ _ z => ?_) (fun _ _ _ z => ?_) (fun _ _ _ _ z => ?_) (fun _ _ _ _ _ z => ?_) (fun z1 z2 z3 z4 z5 z6 z7 => ?_) (fun _ _ _ _ _ _ z => ?_))
  · rw [if_neg (fun y => z (hnet.mpr y.1))] at h; exact h I L frA.rf
  · rw [if_neg (fun y => y.2.1 z)] at h; exact h I L frA.rf
  · rw [if_neg (fun y => y.2.2.1 z)] at h; exact h I L frA.rf
  · rw [if_neg (fun y => y.2.2.2.1 z)] at h; exact h I L frA.rf
  · rw [if_neg (fun y => y.2.2.2.2.1 z)] at h; exact h I L frA.rf
  · rw [if_neg (fun y => y.2.2.2.2.2.1 z)] at h; exact h I L frA.rf
  · have hP1 := hnet.mp z1
    rw [if_pos ⟨hP1, z2, z3, z4, z5, z6, z7⟩] at h
    obtain ⟨M, m1, m20, rfl⟩ := nI_btw (a := 1) (b := 20) rfl rfl (by decide) (by decide) z2 z3
    obtain ⟨N, n1, n30, rfl⟩ := nI_btw (a := 1) (b := 30) rfl rfl (by decide) (by decide) z4 z5
    rw [nI_clamp (by omega), nI_clamp (by omega)] at h
    obtain ⟨X, hX, eX⟩ := nI_of hwS.x
    rw [eX, nI_clamp hX] at h
    generalize hJ : am_u (am_u (am_u I 25 9 0) 25 10 0) 25 11 ((am_u (am_u I 25 9 0) 25 10 0) 94 11) = J
    have hfJ : frc cells25 I J := by rw [← hJ]; exact ((frc.rf.u (by decide)).u (by decide)).u (by decide)
    have hSJ : stS J 94 f n C m := stS_fr (fun q g1 g2 => hfJ q (fun z => by have := cells25_A q z; omega)) hS
    have e5 : J 95 5 = nI P := hSJ.1.1.trans hP.1
    have j11 : J 25 11 = nI X := by rw [← hJ, am_u_at, am_u_ne (by decide), am_u_ne (by decide), hS.2.2.2.1, eX]
    have j9 : J 25 9 = nI 0 := by rw [← hJ, am_u_nk (by decide), am_u_nk (by decide), am_u_at]; rfl
    have j10 : J 25 10 = nI 0 := by rw [← hJ, am_u_nk (by decide), am_u_at]; rfl
    refine run_in rfl rfl ⟨rfl, rfl⟩ (sy_Finder_runWeeks_0 (d := d + 4) 94 _ _ (by decide) (fun _ => ?_) (fun y => ?_))
    · rw [hJ]
      show am_run (d + 5) m_Roads_copy [.ref 30, .ref 95] J L (gg Lx ρ) _
      refine sp_Roads_copy (d := d + 3) (r := 30) (s := 95) (by decide) (by decide) (by decide) hSJ.1 (by omega) (fun I1 f1 hR1 => ?_)
      show am_W am_all (am_run (d + 5)) e_Finder_runWeeks _ 45 [.ref 25, .ref 94, .int (nI M), .int (nI N), .int (J 95 5), .null, .null, .null, .null, .null, .null] [] I1 L (gg Lx ρ) 0 0
      rw [e5]
      have e25 : I1 25 = J 25 := f1 25 (by decide)
      refine sy_Finder_runWeeks_45 (d := d + 4) 94 _ _ _ _ _ _ _ _ _ (by decide) (lp_wkW (I := I) (K := fun s => s = wkW Rs n P N f M (X, 0, 0)) hS hwS hP1 n30 m20 hw hC (fun I' L' s f2 g9 g10 hk => ?_) M 0 I1 L _ _ _ _ _ (X, 0, 0) (by omega) (hfJ.tr (f1.w (by decide))) (by rw [e25]; exact j11) (by omega) (by rw [e25]; exact j9) (by rw [e25]; exact j10) (hR1.tal tal.rf) rfl)
      subst hk
      have hA : frA I I' := f2.A (fun a ha => by have := cells25_A a ha; omega)
      refine sy_LL_weeks_56 (d := d + 5) _ _ _ (fun y => ?_) (fun y => ?_)
      · rw [if_neg y] at h; rw [g10]; exact h I' L' hA
      · rw [if_pos y] at h; rw [g9]; exact h I' L' hA
    · rw [hJ] at y
      have y : J 95 5 < 1 := y
      rw [e5] at y
      exact absurd y (nI_nlt (b := 1) (by omega) (by omega))
  · rw [if_neg (fun y => y.2.2.2.2.2.2 z)] at h; exact h I L frA.rf
end WKS
