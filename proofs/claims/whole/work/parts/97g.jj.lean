/-! ===== what holds between two calls of the law ===== -/
section JJS
variable {Rs : List (List (Nat × List Nat))}
theorem stS_cgB {I : am_I} {s n C m : Nat} {f f' : Nat → Int32} (h : ∀ i, i < 7 + 5 * n ∨ 92 ≤ i → f' i = f i) (hS : stS I s f n C m) : stS I s f' n C m := by
  obtain ⟨⟨g1, g2, g3, g4, g5⟩, h2, h3, h4, h5, h6, h7⟩ := hS
  refine ⟨⟨?_, g2, ?_, ?_, fun j hj => ?_⟩, h2, h3, ?_, fun c hc => ?_, fun l hl => ?_, fun r hr => ?_⟩
  · rw [h 0 (by omega)]; exact g1
  · rw [h 4 (by omega)]; exact g3
  · rw [h 6 (by omega)]; exact g4
  · rw [h (7 + 5 * j) (by omega), h (7 + 5 * j + 1) (by omega), h (7 + 5 * j + 2) (by omega), h (7 + 5 * j + 3) (by omega), h (7 + 5 * j + 4) (by omega)]; exact g5 j hj
  · rw [h 5 (by omega)]; exact h4
  · rw [h (92 + 3 * c) (by omega), h (92 + 3 * c + 1) (by omega), h (92 + 3 * c + 2) (by omega)]; exact h5 c hc
  · rw [h (104 + 4 * l) (by omega), h (104 + 4 * l + 1) (by omega), h (104 + 4 * l + 2) (by omega), h (104 + 4 * l + 3) (by omega)]; exact h6 l hl
  · rw [h (136 + r) (by omega)]; exact h7 r hr
theorem wfN_cgB {n : Nat} {f f' : Nat → Int32} (h : ∀ i, i < 7 + 5 * n ∨ 92 ≤ i → f' i = f i) (hN : wfN f n) : wfN f' n := by
  refine ⟨hN.1, fun j hj => ?_⟩
  have k := hN.2 j hj
  unfold rA rB rD rL at k ⊢
  rw [h (7 + 5 * j) (by omega), h (7 + 5 * j + 1) (by omega), h (7 + 5 * j + 2) (by omega), h (7 + 5 * j + 3) (by omega)]
  exact k
theorem wfS_cgB {P n C m : Nat} {f f' : Nat → Int32} (h : ∀ i, i < 7 + 5 * n ∨ 92 ≤ i → f' i = f i) (hS : wfS Rs f P n C m) : wfS Rs f' P n C m := by
  have hC := hS.C
  have hm := hS.m
  refine wfS_c hS (fun i hi => h i (by omega)) (by rw [h 5 (by omega)]; exact hS.x) (by rw [h 6 (by omega)]; exact hS.fo) (wfN_cgB h hS.n.2.2) (wfc_c hC.2 hS.c (fun i h1 _ => h i (by omega))) (wfL_c hS.l (fun i h1 _ => h i (by omega)) hm.2) (fun r hr => ?_)
  rw [h (136 + r) (by omega)]; exact hS.s r hr
def imgs (I : am_I) (Rs : List (List (Nat × List Nat))) : Prop := ∀ k, k < 4 → (I 125 k = 0 ↔ I 212 k = 0) ∧ (¬ I 125 k = 0 → ∃ P n C m, stS I (126 + 15 * k) (fun i => I 211 (152 * k + i)) n C m ∧ wfS Rs (fun i => I 211 (152 * k + i)) P n C m)
theorem imgs_fr {I I' : am_I} (h : ∀ a, 125 ≤ a → a ≤ 185 → I' a = I a) (h1 : I' 211 = I 211) (h2 : I' 212 = I 212) (hi : imgs I Rs) : imgs I' Rs := by
  intro k hk
  obtain ⟨a, b⟩ := hi k hk
  rw [h 125 (by omega) (by omega), h1, h2]
  refine ⟨a, fun z => ?_⟩
  obtain ⟨P, n, C, m, s, w⟩ := b z
  exact ⟨P, n, C, m, stS_fr (fun a h1 h2 => h a (by omega) (by omega)) s, w⟩
theorem imgs_add {I : am_I} {Rs' : List (List (Nat × List Nat))} (hl : ∀ (k : Nat) (R : List (Nat × List Nat)), Rs[k]? = some R → Rs'[k]? = some R) (hi : imgs I Rs) : imgs I Rs' := by
  intro k hk
  obtain ⟨a, b⟩ := hi k hk
  refine ⟨a, fun z => ?_⟩
  obtain ⟨P, n, C, m, s, w⟩ := b z
  exact ⟨P, n, C, m, s, wfS_add hl w⟩
/-- the rules of both sides -/
def RR (I : am_I) (ρ : List (Nat × Nat)) (Rs : List (List (Nat × List Nat))) : Prop := RCc I ρ Rs ∧ RCm I Rs ∧ wfRs Rs ∧ ∃ s, s ≤ 1 ∧ I 16 3 = nI s
theorem RR.fr {I I' : am_I} {ρ : List (Nat × Nat)} (h : RR I ρ Rs) (h0 : ∀ a, a = 16 ∨ a = 21 ∨ a = 188 ∨ a = 190 ∨ a = 191 ∨ 213 ≤ a → I' a = I a) (h2 : I' 186 2 = I 186 2) : RR I' ρ Rs := by
  obtain ⟨a, b, c, s, hs, e⟩ := h
  exact ⟨RCc_fr (h0 21 (by omega)) (fun x hx => h0 x (by omega)) a, RCm_fr h2 (h0 188 (by omega)) (h0 190 (by omega)) (h0 191 (by omega)) b, c, s, hs, by rw [h0 16 (by omega)]; exact e⟩
/-- the tape of both sides -/
def tps (I : am_I) (B : Nat → Nat) (t : Nat) : Prop := tpC I B t ∧ tpM I B t
theorem tps.fr {I I' : am_I} {B : Nat → Nat} {t : Nat} (h : tps I B t) (h1 : I' 13 1 = I 13 1) (h2 : I' 14 = I 14) (h3 : I' 186 1 = I 186 1) (h4 : I' 187 = I 187) : tps I' B t :=
  ⟨⟨h1.trans h.1.1, h.1.2.1, by rw [h2]; exact h.1.2.2⟩, ⟨h3.trans h.2.1, h.2.2.1, by rw [h4]; exact h.2.2.2⟩⟩
theorem tps.z {I : am_I} {B : Nat → Nat} (h1 : I 13 1 = 0) (h2 : I 186 1 = 0) : tps I B 0 :=
  ⟨⟨h1, Nat.zero_le _, fun i hi => absurd hi (Nat.not_lt_zero i)⟩, ⟨h2, Nat.zero_le _, fun i hi => absurd hi (Nat.not_lt_zero i)⟩⟩
def TT (I : am_I) (ρ : List (Nat × Nat)) (Rs : List (List (Nat × List Nat))) (B : Nat → Nat) (t : Nat) : Prop := tps I B t ∧ RR I ρ Rs ∧ imgs I Rs
def JJ (I : am_I) (ρ : List (Nat × Nat)) (Rs : List (List (Nat × List Nat))) (B : Nat → Nat) (t P n C m : Nat) : Prop := TT I ρ Rs B t ∧ stS I 94 (I 198) n C m ∧ wfS Rs (I 198) P n C m
def KK (xs : Nat → Int32) (ρ : List (Nat × Nat)) (I : am_I) : Prop := I 1 = xs ∧ ∃ Rs B t P n C m, JJ I ρ Rs B t P n C m
def frQ (I I' : am_I) : Prop := (∀ a, ¬ (25 ≤ a ∧ a ≤ 123) → a ≠ 186 → ¬ (198 ≤ a ∧ a ≤ 210) → I' a = I a) ∧ ∀ k, k = 1 ∨ k = 2 → I' 186 k = I 186 k
theorem frA.Q {I I' : am_I} (h : frA I I') : frQ I I' := ⟨fun a z1 _ _ => h a (by omega), fun k _ => by rw [h 186 (by omega)]⟩
theorem frN.Q {I I' : am_I} (h : frN I I') : frQ I I' := ⟨fun a z1 _ _ => h a (by omega), fun k _ => by rw [h 186 (by omega)]⟩
theorem frB.Q {n : Nat} {I I' : am_I} (h : frB n I I') : frQ I I' := ⟨fun a _ z2 z3 => h.1 a z2 z3, h.2.1⟩
theorem frO.Q {I I' : am_I} (h : frO I I') : frQ I I' := ⟨fun a _ z2 z3 => h.1 a z2 z3, h.2⟩
theorem TT.fr {I I' : am_I} {ρ : List (Nat × Nat)} {B : Nat → Nat} {t : Nat} (h : TT I ρ Rs B t) (z : frQ I I') : TT I' ρ Rs B t := by
  have z0 := z.1
  exact ⟨h.1.fr (by rw [z0 13 (by omega) (by omega) (by omega)]) (z0 14 (by omega) (by omega) (by omega)) (z.2 1 (Or.inl rfl)) (z0 187 (by omega) (by omega) (by omega)),
    h.2.1.fr (fun a ha => z0 a (by omega) (by omega) (by omega)) (z.2 2 (Or.inr rfl)),
    imgs_fr (fun a h1 h2 => z0 a (by omega) (by omega) (by omega)) (z0 211 (by omega) (by omega) (by omega)) (z0 212 (by omega) (by omega) (by omega)) h.2.2⟩
end JJS
section PRS
variable {Lx : Nat} {ρ : List (Nat × Nat)} {Rs : List (List (Nat × List Nat))} {I : am_I} {L : am_L} {B : Nat → Nat} {t P n C m : Nat}
/-- one call of both: they answer alike, and all holds again -/
def PR (Lx mc mm : Nat) (as : List Value) (I : am_I) (L : am_L) (ρ : List (Nat × Nat)) : Prop := ∀ K1 : am_Q, (∀ v I1 L1 ρ1, I1 1 = I 1 → (∀ K2 : am_Q, (∀ I2 L2 ρ2, KK (I 1) ρ2 I2 → K2 (some (.int v)) I2 L2 (gg Lx ρ2)) → am_run 40 mm (.ref 186 :: as) I1 L1 (gg Lx ρ1) K2) → K1 (some (.int v)) I1 L1 (gg Lx ρ1)) → am_run 40 mc (.ref 12 :: as) I L (gg Lx ρ) K1
theorem pr_ask {mc mm : Nat} {as : List Value} {v : Int32} (hJ : JJ I ρ Rs B t P n C m)
    (hc : ∀ K1 : am_Q, (∀ I' L', frA I I' → K1 (some (.int v)) I' L' (gg Lx ρ)) → am_run 40 mc (.ref 12 :: as) I L (gg Lx ρ) K1)
    (hm : ∀ I1 L1 (K2 : am_Q), I1 198 = I 198 → RCm I1 Rs → (∀ I' L', frB n I1 I' → K2 (some (.int v)) I' L' (gg Lx ρ)) → am_run 40 mm (.ref 186 :: as) I1 L1 (gg Lx ρ) K2) : PR Lx mc mm as I L ρ := by
  obtain ⟨hT, hS, hw⟩ := hJ
  intro K1 h
  refine hc K1 (fun I1 L1 f1 => h v I1 L1 ρ (f1 1 (by omega)) (fun K2 h2 => ?_))
  have e198 : I1 198 = I 198 := f1 198 (by omega)
  have T1 := hT.fr f1.Q
  refine hm I1 L1 K2 e198 T1.2.1.2.1 (fun I2 L2 f2 => h2 I2 L2 ρ ⟨?_, Rs, B, t, P, n, C, m, T1.fr f2.Q, ?_, ?_⟩)
  · exact (f2.1 1 (by omega) (by omega)).trans (f1 1 (by omega))
  · refine stS_cgB (f := I 198) (fun i hi => by rw [f2.2.2 i hi, e198]) (stS_fr (fun a h1 h2 => ?_) hS)
    rw [f2.1 a (by omega) (by omega), f1 a (by omega)]
  · exact wfS_cgB (fun i hi => by rw [f2.2.2 i hi, e198]) hw
theorem pr_hand {mc mm : Nat} {as : List Value} {v : Int32} {f' : Nat → Int32} (hJ : JJ I ρ Rs B t P n C m) (hw' : wfS Rs f' P n C m)
    (hc : ∀ K1 : am_Q, (∀ I' L', frN I I' → stS I' 94 f' n C m → K1 (some (.int v)) I' L' (gg Lx ρ)) → am_run 40 mc (.ref 12 :: as) I L (gg Lx ρ) K1)
    (hm : ∀ I1 L1 (K2 : am_Q), I1 198 = I 198 → RCm I1 Rs → (∀ I' L', frO I1 I' → I' 198 = f' → K2 (some (.int v)) I' L' (gg Lx ρ)) → am_run 40 mm (.ref 186 :: as) I1 L1 (gg Lx ρ) K2) : PR Lx mc mm as I L ρ := by
  obtain ⟨hT, hS, hw⟩ := hJ
  intro K1 h
  refine hc K1 (fun I1 L1 f1 s1 => h v I1 L1 ρ (f1 1 (by omega)) (fun K2 h2 => ?_))
  have e198 : I1 198 = I 198 := f1 198 (by omega)
  have T1 := hT.fr f1.Q
  refine hm I1 L1 K2 e198 T1.2.1.2.1 (fun I2 L2 f2 e2 => h2 I2 L2 ρ ⟨?_, Rs, B, t, P, n, C, m, T1.fr f2.Q, ?_, ?_⟩)
  · exact (f2.1 1 (by omega) (by omega)).trans (f1 1 (by omega))
  · rw [e2]; exact stS_fr (fun a h1 h2 => f2.1 a (by omega) (by omega)) s1
  · rw [e2]; exact hw'
theorem pr_same {mc mm : Nat} {as : List Value} {v : Int32} (hJ : JJ I ρ Rs B t P n C m)
    (hc : ∀ K1 : am_Q, K1 (some (.int v)) I L (gg Lx ρ) → am_run 40 mc (.ref 12 :: as) I L (gg Lx ρ) K1)
    (hm : ∀ K2 : am_Q, K2 (some (.int v)) I L (gg Lx ρ) → am_run 40 mm (.ref 186 :: as) I L (gg Lx ρ) K2) : PR Lx mc mm as I L ρ := by
  intro K1 h
  exact hc K1 (h v I L ρ rfl (fun K2 h2 => hm K2 (h2 I L ρ ⟨rfl, Rs, B, t, P, n, C, m, hJ⟩)))
theorem pr_soonest {a b c : Int32} (hJ : JJ I ρ Rs B t P n C m) : PR Lx 101 190 [.int a, .int b, .int c] I L ρ :=
  pr_ask (v := pSn Rs (I 198) P n a b c) hJ (fun K1 h => sp_LL_soonest (d := 35) hJ.2.1 hJ.2.2 hJ.1.2.1.2.2.1 hJ.1.2.1.1 h) (fun I1 L1 K2 e hM h => sp_Model_soonest (d := 32) (Rs := Rs) (P := P) (n := n) (C := C) (m := m) (by rw [e]; exact hJ.2.2) hJ.1.2.1.2.2.1 hM (by rw [e]; exact h))
theorem pr_way {a b c e : Int32} (hJ : JJ I ρ Rs B t P n C m) : PR Lx 102 191 [.int a, .int b, .int c, .int e] I L ρ :=
  pr_ask (v := pWy Rs (I 198) P n a b c e) hJ (fun K1 h => sp_LL_way (d := 35) hJ.2.1 hJ.2.2 hJ.1.2.1.2.2.1 hJ.1.2.1.1 h) (fun I1 L1 K2 e hM h => sp_Model_way (d := 32) (Rs := Rs) (P := P) (n := n) (C := C) (m := m) (by rw [e]; exact hJ.2.2) hJ.1.2.1.2.2.1 hM (by rw [e]; exact h))
theorem pr_reached {a b : Int32} (hJ : JJ I ρ Rs B t P n C m) : PR Lx 103 192 [.int a, .int b] I L ρ :=
  pr_ask (v := pRc Rs (I 198) P n a b) hJ (fun K1 h => sp_LL_reached (d := 35) hJ.2.1 hJ.2.2 hJ.1.2.1.2.2.1 hJ.1.2.1.1 h) (fun I1 L1 K2 e hM h => sp_Model_reached (d := 32) (Rs := Rs) (P := P) (n := n) (C := C) (m := m) (by rw [e]; exact hJ.2.2) hJ.1.2.1.2.2.1 hM (by rw [e]; exact h))
theorem pr_wiped {a b c e : Int32} (hJ : JJ I ρ Rs B t P n C m) : PR Lx 104 193 [.int a, .int b, .int c, .int e] I L ρ :=
  pr_ask (v := pWp (I 198) P n a b c e) hJ (fun K1 h => sp_LL_wiped (d := 35) hJ.2.1 hJ.2.2 h) (fun I1 L1 K2 e hM h => sp_Model_wiped (d := 37) (Rs := Rs) (P := P) (n := n) (C := C) (m := m) (by rw [e]; exact hJ.2.2) (by rw [e]; exact h))
theorem pr_plan {a b : Int32} (hJ : JJ I ρ Rs B t P n C m) : PR Lx 105 202 [.int a, .int b] I L ρ :=
  pr_ask (v := pPl Rs (I 198) n C m a b) hJ (fun K1 h => sp_LL_plan (d := 34) hJ.2.1 hJ.2.2 hJ.1.2.1.2.2.1 hJ.1.2.1.1 h) (fun I1 L1 K2 e hM h => sp_Model_plan (d := 33) (Rs := Rs) (P := P) (n := n) (C := C) (m := m) (by rw [e]; exact hJ.2.2) hJ.1.2.1.2.2.1 hM (by rw [e]; exact h))
theorem pr_stuck (hJ : JJ I ρ Rs B t P n C m) : PR Lx 106 205 [] I L ρ :=
  pr_ask (v := pSk Rs (I 198) P n m) hJ (fun K1 h => sp_LL_stuck (d := 34) hJ.2.1 hJ.2.2 hJ.1.2.1.2.2.1 hJ.1.2.1.1 h) (fun I1 L1 K2 e hM h => sp_Model_stuck (d := 32) (Rs := Rs) (P := P) (n := n) (C := C) (m := m) (by rw [e]; exact hJ.2.2) hJ.1.2.1.2.2.1 hM (by rw [e]; exact h))
theorem pr_order {a : Int32} (hJ : JJ I ρ Rs B t P n C m) : PR Lx 107 208 [.int a] I L ρ :=
  pr_ask (v := pOr Rs (I 198) P n (wtL (I 198) 6 m) a) hJ (fun K1 h => sp_LL_order (d := 25) hJ.2.1 hJ.2.2 hJ.1.2.1.2.2.1 hJ.1.2.1.1 h) (fun I1 L1 K2 e hM h => sp_Model_order (d := 30) (Rs := Rs) (P := P) (n := n) (C := C) (m := m) (by rw [e]; exact hJ.2.2) hJ.1.2.1.2.2.1 hM (by rw [e]; exact h))
theorem pr_dear {a : Int32} (hJ : JJ I ρ Rs B t P n C m) : PR Lx 108 209 [.int a] I L ρ :=
  pr_ask (v := pDe Rs (I 198) n (wtL (I 198) 6 m) a) hJ (fun K1 h => sp_LL_dear (d := 25) hJ.2.1 hJ.2.2 hJ.1.2.1.2.2.1 hJ.1.2.1.1 h) (fun I1 L1 K2 e hM h => sp_Model_dear (d := 30) (Rs := Rs) (P := P) (n := n) (C := C) (m := m) (by rw [e]; exact hJ.2.2) hJ.1.2.1.2.2.1 hM (by rw [e]; exact h))
theorem pr_better {a b : Int32} (hJ : JJ I ρ Rs B t P n C m) : PR Lx 109 210 [.int a, .int b] I L ρ :=
  pr_ask (v := pBt Rs (I 198) P n m a b) hJ (fun K1 h => sp_LL_better (d := 32) hJ.2.1 hJ.2.2 hJ.1.2.1.2.2.1 hJ.1.2.1.1 h) (fun I1 L1 K2 e hM h => sp_Model_better (d := 31) (Rs := Rs) (P := P) (n := n) (C := C) (m := m) (by rw [e]; exact hJ.2.2) hJ.1.2.1.2.2.1 hM (by rw [e]; exact h))
theorem pr_drove {a b : Int32} (hJ : JJ I ρ Rs B t P n C m) : PR Lx 111 214 [.int a, .int b] I L ρ :=
  pr_ask (v := pDv Rs (I 198) P n m a b) hJ (fun K1 h => sp_LL_drove (d := 28) hJ.2.1 hJ.2.2 hJ.1.2.1.2.2.1 hJ.1.2.1.1 h) (fun I1 L1 K2 e hM h => sp_Model_drove (d := 30) (Rs := Rs) (P := P) (n := n) (C := C) (m := m) (by rw [e]; exact hJ.2.2) hJ.1.2.1.2.2.1 hM (by rw [e]; exact h))
theorem pr_weeks {a b c : Int32} (hJ : JJ I ρ Rs B t P n C m) : PR Lx 113 217 [.int a, .int b, .int c] I L ρ :=
  pr_ask (v := pWk Rs (I 198) P n a b c) hJ (fun K1 h => sp_LL_weeks (d := 33) hJ.2.1 hJ.2.2 hJ.1.2.1.2.2.1 hJ.1.2.1.1 h) (fun I1 L1 K2 e hM h => sp_Model_weeks (d := 30) (Rs := Rs) (P := P) (n := n) (C := C) (m := m) (by rw [e]; exact hJ.2.2) hJ.1.2.1.2.2.1 hM (by rw [e]; exact h))
theorem pr_road {a b : Int32} (hJ : JJ I ρ Rs B t P n C m) : PR Lx 95 173 [.int a, .int b] I L ρ :=
  pr_same (v := pRd (I 198) n a b) hJ (fun K1 h => sp_LL_road (d := 38) hJ.2.1 hJ.2.2 h) (fun K2 h => sp_Model_road (d := 38) hJ.2.2 h)
theorem pr_carter {a b : Int32} (hJ : JJ I ρ Rs B t P n C m) : PR Lx 96 174 [.int a, .int b] I L ρ :=
  pr_same (v := pCa (I 198) C a b) hJ (fun K1 h => sp_LL_carter (d := 38) hJ.2.1 hJ.2.2 h) (fun K2 h => sp_Model_carter (d := 38) hJ.2.2 h)
theorem pr_load {a b : Int32} (hJ : JJ I ρ Rs B t P n C m) : PR Lx 97 175 [.int a, .int b] I L ρ :=
  pr_same (v := pLo (I 198) m a b) hJ (fun K1 h => sp_LL_load (d := 37) hJ.2.1 hJ.2.2 h) (fun K2 h => sp_Model_load (d := 37) hJ.2.2 h)
theorem pr_count {a : Int32} (hJ : JJ I ρ Rs B t P n C m) : PR Lx 114 218 [.int a] I L ρ :=
  pr_same (v := pCt Rs (I 198) t n m a) hJ (fun K1 h => sp_LL_count (d := 36) hJ.2.1 hJ.2.2 hJ.1.2.1.1 hJ.1.1.1.1 h) (fun K2 h => sp_Model_count (d := 37) hJ.2.2 hJ.1.2.1.2.1 hJ.1.1.2.1 h)
theorem pr_drive {a b : Int32} (hJ : JJ I ρ Rs B t P n C m) : PR Lx 98 182 [.int a, .int b] I L ρ :=
  pr_hand (v := (pDr Rs (I 198) n C a b).1) hJ (wfS_pDr (x := a) (y := b) hJ.2.2) (fun K1 h => sp_LL_drive (d := 36) hJ.2.1 hJ.2.2 hJ.1.2.1.2.2.1 hJ.1.2.1.1 h) (fun I1 L1 K2 e hM h => sp_Model_drive (d := 34) (Rs := Rs) (P := P) (n := n) (C := C) (m := m) (by rw [e]; exact hJ.2.2) hJ.1.2.1.2.2.1 hM (by rw [e]; exact h))
theorem pr_take {a b : Int32} (hJ : JJ I ρ Rs B t P n C m) : PR Lx 99 183 [.int a, .int b] I L ρ :=
  pr_hand (v := (pTk (I 198) C m a b).1) hJ (wfS_pTk (x := a) (y := b) hJ.2.2) (fun K1 h => sp_LL_take (d := 38) hJ.2.1 hJ.2.2 (fun I' => h I' _)) (fun I1 L1 K2 e hM h => sp_Model_take (d := 38) (Rs := Rs) (P := P) (n := n) (C := C) (m := m) (by rw [e]; exact hJ.2.2) (by rw [e]; exact fun I' => h I' _))
theorem pr_lay {a : Int32} (hJ : JJ I ρ Rs B t P n C m) : PR Lx 100 184 [.int a] I L ρ :=
  pr_hand (v := (pLy (I 198) C a).1) hJ (wfS_pLy (x := a) hJ.2.2) (fun K1 h => sp_LL_lay (d := 38) hJ.2.1 hJ.2.2 (fun I' => h I' _)) (fun I1 L1 K2 e hM h => sp_Model_lay (d := 38) (Rs := Rs) (P := P) (n := n) (C := C) (m := m) (by rw [e]; exact hJ.2.2) (by rw [e]; exact fun I' => h I' _))
theorem pr_found {a b : Int32} (hJ : JJ I ρ Rs B t P n C m) : PR Lx 110 211 [.int a, .int b] I L ρ :=
  pr_hand (v := (pFo (I 198) n a b).1) hJ (wfS_pFo (x := a) (v := b) hJ.2.2) (fun K1 h => sp_LL_found (d := 38) hJ.2.1 hJ.2.2 (fun I' => h I' _)) (fun I1 L1 K2 e hM h => sp_Model_found (d := 38) (Rs := Rs) (P := P) (n := n) (C := C) (m := m) (by rw [e]; exact hJ.2.2) (by rw [e]; exact fun I' => h I' _))
theorem pr_seed {a : Int32} (hJ : JJ I ρ Rs B t P n C m) : PR Lx 112 215 [.int a] I L ρ :=
  pr_hand (v := (pSd (I 198) a).1) hJ (wfS_pSd (v := a) hJ.2.2) (fun K1 h => sp_LL_seed (d := 39) hJ.2.1 hJ.2.2 (fun I' => h I' _)) (fun I1 L1 K2 e hM h => sp_Model_seed (d := 39) (by rw [e]; exact fun I' => h I' _))
theorem pr_force {a : Int32} (hJ : JJ I ρ Rs B t P n C m) : PR Lx 94 172 [.int a] I L ρ :=
  pr_hand (v := (pFc Rs (I 198) a).1) hJ (wfS_pFc (v := a) hJ.1.2.1.2.2.1 hJ.2.2) (fun K1 h => sp_LL_force (d := 39) hJ.2.1 hJ.2.2 hJ.1.2.1.2.2.1 hJ.1.2.1.1 (fun I' => h I' _)) (fun I1 L1 K2 e hM h => sp_Model_force (d := 38) hM (by rw [e]; exact fun I' => h I' _))
end PRS
