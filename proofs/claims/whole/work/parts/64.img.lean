/-! ===== copies of a state; images ===== -/
/-- only the State at r is changed -/
def frS (r : Nat) (I I' : am_I) : Prop := ∀ a, ¬ (r ≤ a ∧ a ≤ r + 14) → I' a = I a
section IMG
variable {d Lx : Nat} {ρ : List (Nat × Nat)} {Q : am_Q} {Rs : List (List (Nat × List Nat))}
theorem cpyN {g h : Nat → Int32} {N j : Nat} (hj : j < N) : va_cpy g h 0 0 N j = g j := by
  rw [pk_cpy_in (by omega) (by omega)]; simp
theorem sp_State_copy {I : am_I} {L : am_L} {r s n C m : Nat} {f : Nat → Int32} (hr : r ∈ stl) (hs : s ∈ stl) (hne : r ≠ s) (hS : stS I s f n C m) (hn : n ≤ 16) (hC : C ≤ 4) (hm : m ≤ 8)
    (h : ∀ I', frS r I I' → stS I' r f n C m → Q none I' L (gg Lx ρ)) : am_run (d + 3) m_State_copy [.ref r, .ref s] I L (gg Lx ρ) Q := by
  have hap := stl_apart r hr s hs hne
  obtain ⟨hR, s9, s10, s11, hc, hl, hse⟩ := hS
  refine run_in rfl rfl ⟨rfl, rfl⟩ (sz_State_copy_0 r s hr hs ?_)
  refine sp_Roads_copy (gg_s1 hr) (gg_s1 hs) (by omega) hR (by omega) (fun J f0 hR0 => ?_)
  have F0 : ∀ a, ¬ (r < a ∧ a ≤ r + 6) → J a = I a := fun a z => f0 a (by simp; omega)
  refine sz_State_copy_11 r s hr hs ?_
  generalize e7 : am_r J (r + 7) _ = J7
  have F7 : ∀ a, a ≠ r + 7 → J7 a = J a := fun a z => by rw [← e7]; exact am_r_ne z
  have V7 : ∀ c, c < 4 → J7 (r + 7) c = J (s + 7) c := fun c z => by rw [← e7, am_r_at]; exact cpyN z
  refine sz_State_copy_25 r s hr hs ?_
  generalize e8 : am_r J7 (r + 8) _ = J8
  have F8 : ∀ a, a ≠ r + 8 → J8 a = J7 a := fun a z => by rw [← e8]; exact am_r_ne z
  have V8 : ∀ c, c < 4 → J8 (r + 8) c = J7 (s + 8) c := fun c z => by rw [← e8, am_r_at]; exact cpyN z
  refine sz_State_copy_39 r s hr hs ?_
  generalize e9 : am_r J8 (r + 9) _ = J9
  have F9 : ∀ a, a ≠ r + 9 → J9 a = J8 a := fun a z => by rw [← e9]; exact am_r_ne z
  have V9 : ∀ c, c < 4 → J9 (r + 9) c = J8 (s + 9) c := fun c z => by rw [← e9, am_r_at]; exact cpyN z
  refine sz_State_copy_53 r s hr hs ?_
  generalize e10 : am_r J9 (r + 10) _ = J10
  have F10 : ∀ a, a ≠ r + 10 → J10 a = J9 a := fun a z => by rw [← e10]; exact am_r_ne z
  have V10 : ∀ c, c < 8 → J10 (r + 10) c = J9 (s + 10) c := fun c z => by rw [← e10, am_r_at]; exact cpyN z
  refine sz_State_copy_68 r s hr hs ?_
  generalize e11 : am_r J10 (r + 11) _ = J11
  have F11 : ∀ a, a ≠ r + 11 → J11 a = J10 a := fun a z => by rw [← e11]; exact am_r_ne z
  have V11 : ∀ c, c < 8 → J11 (r + 11) c = J10 (s + 11) c := fun c z => by rw [← e11, am_r_at]; exact cpyN z
  refine sz_State_copy_83 r s hr hs ?_
  generalize e12 : am_r J11 (r + 12) _ = J12
  have F12 : ∀ a, a ≠ r + 12 → J12 a = J11 a := fun a z => by rw [← e12]; exact am_r_ne z
  have V12 : ∀ c, c < 8 → J12 (r + 12) c = J11 (s + 12) c := fun c z => by rw [← e12, am_r_at]; exact cpyN z
  refine sz_State_copy_98 r s hr hs ?_
  generalize e13 : am_r J12 (r + 13) _ = J13
  have F13 : ∀ a, a ≠ r + 13 → J13 a = J12 a := fun a z => by rw [← e13]; exact am_r_ne z
  have V13 : ∀ c, c < 8 → J13 (r + 13) c = J12 (s + 13) c := fun c z => by rw [← e13, am_r_at]; exact cpyN z
  refine sz_State_copy_113 r s hr hs ?_
  generalize e14 : am_r J13 (r + 14) _ = J14
  have F14 : ∀ a, a ≠ r + 14 → J14 a = J13 a := fun a z => by rw [← e14]; exact am_r_ne z
  have V14 : ∀ c, c < 16 → J14 (r + 14) c = J13 (s + 14) c := fun c z => by rw [← e14, am_r_at]; exact cpyN z
  refine sz_State_copy_128 r s hr hs ?_
  have G : ∀ a, ¬ (r + 7 ≤ a ∧ a ≤ r + 14) → J14 a = J a := fun a z => by
    rw [F14 a (by omega), F13 a (by omega), F12 a (by omega), F11 a (by omega), F10 a (by omega), F9 a (by omega), F8 a (by omega), F7 a (by omega)]
  have Gs : J14 s = I s := (G s (by omega)).trans (F0 s (by omega))
  have rs : r ≠ s := hne
  rw [am_u_ne (f := am_u J14 r 9 (J14 s 9)) (k := 10) (show s ≠ r by omega), am_u_ne (f := J14) (k := 9) (show s ≠ r by omega), Gs]
  generalize eK : am_u (am_u (am_u J14 r 9 (I s 9)) r 10 (I s 10)) r 11 (I s 11) = K
  have FK : ∀ a, a ≠ r → K a = J14 a := fun a z => by rw [← eK, am_u_ne z, am_u_ne z, am_u_ne z]
  refine h K (fun a z => ?_) ⟨?_, ?_, ?_, ?_, fun c hcc => ?_, fun l hll => ?_, fun q hq => ?_⟩
  · rw [FK a (by omega), G a (by omega), F0 a (by omega)]
  · exact rdR_fr (fun a g1 g2 => by rw [FK a (by omega), G a (by omega)]) hR0
  · rw [← eK, am_u_nk (by decide), am_u_nk (by decide), am_u_at]; exact s9
  · rw [← eK, am_u_nk (by decide), am_u_at]; exact s10
  · rw [← eK, am_u_at]; exact s11
  · obtain ⟨q1, q2, q3⟩ := hc c hcc
    refine ⟨?_, ?_, ?_⟩
    · rw [FK _ (by omega), F14 _ (by omega), F13 _ (by omega), F12 _ (by omega), F11 _ (by omega), F10 _ (by omega), F9 _ (by omega), F8 _ (by omega), V7 c (by omega), F0 _ (by omega)]; exact q1
    · rw [FK _ (by omega), F14 _ (by omega), F13 _ (by omega), F12 _ (by omega), F11 _ (by omega), F10 _ (by omega), F9 _ (by omega), V8 c (by omega), F7 _ (by omega), F0 _ (by omega)]; exact q2
    · rw [FK _ (by omega), F14 _ (by omega), F13 _ (by omega), F12 _ (by omega), F11 _ (by omega), F10 _ (by omega), V9 c (by omega), F8 _ (by omega), F7 _ (by omega), F0 _ (by omega)]; exact q3
  · obtain ⟨q1, q2, q3, q4⟩ := hl l hll
    refine ⟨?_, ?_, ?_, ?_⟩
    · rw [FK _ (by omega), F14 _ (by omega), F13 _ (by omega), F12 _ (by omega), F11 _ (by omega), V10 l (by omega), F9 _ (by omega), F8 _ (by omega), F7 _ (by omega), F0 _ (by omega)]; exact q1
    · rw [FK _ (by omega), F14 _ (by omega), F13 _ (by omega), F12 _ (by omega), V11 l (by omega), F10 _ (by omega), F9 _ (by omega), F8 _ (by omega), F7 _ (by omega), F0 _ (by omega)]; exact q2
    · rw [FK _ (by omega), F14 _ (by omega), F13 _ (by omega), V12 l (by omega), F11 _ (by omega), F10 _ (by omega), F9 _ (by omega), F8 _ (by omega), F7 _ (by omega), F0 _ (by omega)]; exact q3
    · rw [FK _ (by omega), F14 _ (by omega), V13 l (by omega), F12 _ (by omega), F11 _ (by omega), F10 _ (by omega), F9 _ (by omega), F8 _ (by omega), F7 _ (by omega), F0 _ (by omega)]; exact q4
  · rw [FK _ (by omega), V14 q (by omega), F13 _ (by omega), F12 _ (by omega), F11 _ (by omega), F10 _ (by omega), F9 _ (by omega), F8 _ (by omega), F7 _ (by omega), F0 _ (by omega)]; exact hse q hq
theorem im_stl {k : Nat} (hk : k < 4) : 126 + 15 * k ∈ stl := by
  match k, hk with
  | 0, _ => decide
  | 1, _ => decide
  | 2, _ => decide
  | 3, _ => decide
  | k + 4, h => omega
theorem sp_LL_image {I : am_I} {L : am_L} {f : Nat → Int32} {n C m k : Nat} (hk : k < 4) (hS : stS I 94 f n C m) (hn : n ≤ 16) (hC : C ≤ 4) (hm : m ≤ 8)
    (h : ∀ I', (∀ a, a ≠ 125 → ¬ (126 + 15 * k ≤ a ∧ a ≤ 126 + 15 * k + 14) → I' a = I a) → I' 125 = up1 (I 125) k 1 → stS I' (126 + 15 * k) f n C m → Q (some (.int (f 4))) I' L (gg Lx ρ)) : am_run (d + 4) m_LL_image [.ref 12, .int (nI k)] I L (gg Lx ρ) Q := by
  have e : (nI k).toNatClampNeg = k := nI_clamp (by omega)
  have v4 : vp_in (nI k) 4 := vp_in_nI hk (by decide)
  refine run_in rfl rfl ⟨rfl, rfl⟩ (sz_LL_image_0 _ (fun z => absurd z (nI_pos (by omega))) (fun _ _ => v4) (fun _ _ => ?_) (fun _ z => absurd (show nI k < 4 from nI_lt (b := 4) hk (by decide)) z))
  rw [e]
  refine sp_State_copy (im_stl hk) (s := 94) (by decide) (by omega) hS hn hC hm (fun I1 f1 h1 => sz_LL_image_24 _ v4 ?_)
  rw [e, show I1 95 7 = f 4 from (by rw [f1 95 (by omega)]; exact hS.1.2.2.1)]
  refine h _ (fun a z1 z2 => by rw [am_u_ne z1]; exact f1 a z2) (funext fun j => ?_) (stS_fr (fun a g1 g2 => am_u_ne (by omega)) h1)
  by_cases q : j = k
  · subst q; rw [am_u_at, up1_at]
  · rw [am_u_nk q, up1_ne q, f1 125 (by omega)]
theorem sp_LL_image0 {I : am_I} {L : am_L} {w : Int32} (hw : ¬ vN 4 w) (h : Q (some (.int (-1))) I L (gg Lx ρ)) : am_run (d + 1) m_LL_image [.ref 12, .int w] I L (gg Lx ρ) Q :=
  run_in rfl rfl ⟨rfl, rfl⟩ (sz_LL_image_0 _ (fun _ => h) (fun z z2 => absurd ⟨z, z2⟩ hw) (fun z z2 => absurd ⟨z, z2⟩ hw) (fun _ _ => h))
theorem sp_LL_back {I : am_I} {L : am_L} {f : Nat → Int32} {n C m k : Nat} (hk : k < 4) (hmd : ¬ I 125 k = 0) (hS : stS I (126 + 15 * k) f n C m) (hn : n ≤ 16) (hC : C ≤ 4) (hm : m ≤ 8)
    (h : ∀ I', frN I I' → stS I' 94 f n C m → Q (some (.int (f 4))) I' L (gg Lx ρ)) : am_run (d + 4) m_LL_back [.ref 12, .int (nI k)] I L (gg Lx ρ) Q := by
  have e : (nI k).toNatClampNeg = k := nI_clamp (by omega)
  have v4 : vp_in (nI k) 4 := vp_in_nI hk (by decide)
  refine run_in rfl rfl ⟨rfl, rfl⟩ (sz_LL_back_0 _ (fun z => absurd z (nI_pos (by omega))) (fun _ z => absurd (show nI k < 4 from nI_lt (b := 4) hk (by decide)) z) (fun _ _ => v4) (fun _ _ _ => ?_) (fun _ _ z => absurd (by rw [e] at z; exact z) hmd))
  rw [e]
  refine sp_State_copy (r := 94) (by decide) (im_stl hk) (by omega) hS hn hC hm (fun I1 f1 h1 => sz_LL_back_33 _ ?_)
  rw [show I1 95 7 = f 4 from h1.1.2.2.1]
  exact h I1 (fun a z => f1 a (by omega)) h1
theorem sp_LL_back0 {I : am_I} {L : am_L} {w : Int32} (hw : ¬ vN 4 w ∨ I 125 w.toNatClampNeg = 0) (h : Q (some (.int (-1))) I L (gg Lx ρ)) : am_run (d + 1) m_LL_back [.ref 12, .int w] I L (gg Lx ρ) Q :=
  run_in rfl rfl ⟨rfl, rfl⟩ (sz_LL_back_0 _ (fun _ => h) (fun _ _ => h) (fun z z2 => vin z z2 rfl (by decide)) (fun z z2 z3 => hw.elim (fun q => absurd ⟨z, z2⟩ q) (fun q => absurd q z3)) (fun _ _ _ => h))
theorem in4 {w : Int32} : mIn (Int32.toInt64 w) 0 3 ↔ vN 4 w := by
  have i1 : mIn (Int32.toInt64 w) 0 3 ↔ (¬ w < 0 ∧ ¬ 3 < w) := mIn_i (a := 0) (b := 3)
  rw [i1]
  refine ⟨fun z => ?_, fun z => ?_⟩
  · obtain ⟨k, k0, k3, rfl⟩ := nI_btw (a := 0) (b := 3) rfl rfl (by decide) (by decide) z.1 z.2
    exact ⟨nI_pos (by omega), nI_lt (by omega) (by decide)⟩
  · obtain ⟨k, hk, rfl⟩ := ix_lt (by decide) z.1 z.2
    exact ⟨nI_pos (by omega), nI_nlt (a := 3) (by omega) (by decide)⟩
theorem k152 (k i : Nat) : (152 * nI k) + nI i = nI (152 * k + i) := by
  rw [show (152 : Int32) = nI 152 from rfl, pk_mul, nI_add]
theorem lp_mim {I : am_I} {L : am_L} {k : Nat} (hk : k < 4) (h : ∀ I', (∀ a, a ≠ 211 → I' a = I a) → (∀ i, i < 152 → I' 211 (152 * k + i) = I 198 i) → (∀ j, ¬ (152 * k ≤ j ∧ j < 152 * k + 152) → I' 211 j = I 211 j) → Q (some (.int (I 198 4))) I' L (gg Lx ρ)) : ∀ m i I', i + m = 152 → (∀ a, a ≠ 211 → I' a = I a) → (∀ j, j < i → I' 211 (152 * k + j) = I 198 j) → (∀ j, ¬ (152 * k ≤ j ∧ j < 152 * k + 152) → I' 211 j = I 211 j) → am_W am_all (am_run (d + 1)) e_Model_image Q 23 [.ref 186, .int (nI k), .int (nI i)] [] I' L (gg Lx ρ) 0 0
  | 0, i, I', e, h1, h2, h3 => by
    have e : i = 152 := e
    subst e
    have hno : ¬ nI 152 < 152 := by decide
    exact sy_Model_image_23 _ _ (fun _ => by rw [h1 198 (by decide)]; exact h I' h1 h2 h3) (fun z => absurd z hno) (fun z => absurd z hno) (fun z => absurd z hno)
  | m + 1, i, I', e, h1, h2, h3 => by
    have hi : nI i < 152 := nI_lt (b := 152) (by omega) (by decide)
    refine sy_Model_image_23 _ _ (fun z => absurd hi z) (fun _ => vp_in_nI (by omega) (by decide)) (fun _ => by rw [k152]; exact vp_in_nI (by omega) (by decide)) (fun _ => ?_)
    rw [k152, nI_clamp (by omega), nI_clamp (by omega), nI_1, h1 198 (by decide)]
    refine lp_mim hk h m (i + 1) _ (by omega) (fun a z => by rw [am_u_ne z]; exact h1 a z) (fun j hj => ?_) (fun j hj => ?_)
    · by_cases q : j = i
      · subst q; rw [am_u_at]
      · rw [am_u_nk (by omega)]; exact h2 j (by omega)
    · rw [am_u_nk (by omega)]; exact h3 j hj
theorem sp_Model_image {I : am_I} {L : am_L} {k : Nat} (hk : k < 4)
    (h : ∀ I', (∀ a, a ≠ 211 → a ≠ 212 → I' a = I a) → I' 212 = up1 (I 212) k 1 → (∀ i, i < 152 → I' 211 (152 * k + i) = I 198 i) → (∀ j, ¬ (152 * k ≤ j ∧ j < 152 * k + 152) → I' 211 j = I 211 j) → Q (some (.int (I 198 4))) I' L (gg Lx ρ)) : am_run (d + 2) m_Model_image [.ref 186, .int (nI k)] I L (gg Lx ρ) Q := by
  have e : (nI k).toNatClampNeg = k := nI_clamp (by omega)
  have hv : vN 4 (nI k) := ⟨nI_pos (by omega), nI_lt hk (by decide)⟩
  refine run_in rfl rfl ⟨rfl, rfl⟩ (sy_Model_image_0 _ (fun _ => vp_in_nI hk (by decide)) (fun _ => ?_) (fun z => absurd (in4.mpr hv) z))
  rw [e]
  refine lp_mim (I := am_u I 212 k 1) hk (fun I' h1 h2 h3 => ?_) 152 0 _ rfl (fun _ _ => rfl) (fun j hj => absurd hj (by omega)) (fun _ _ => rfl)
  rw [am_u_ne (by decide)] at h2 h3 ⊢
  refine h I' (fun a z1 z2 => by rw [h1 a z1, am_u_ne z2]) ?_ h2 h3
  rw [h1 212 (by decide)]
  exact funext fun j => by
    by_cases q : j = k
    · subst q; rw [am_u_at, up1_at]
    · rw [am_u_nk q, up1_ne q]
theorem sp_Model_image0 {I : am_I} {L : am_L} {w : Int32} (hw : ¬ vN 4 w) (h : Q (some (.int (-1))) I L (gg Lx ρ)) : am_run (d + 2) m_Model_image [.ref 186, .int w] I L (gg Lx ρ) Q :=
  run_in rfl rfl ⟨rfl, rfl⟩ (sy_Model_image_0 _ (fun z => absurd (in4.mp z) hw) (fun z => absurd (in4.mp z) hw) (fun _ => h))
theorem lp_mbk {I : am_I} {L : am_L} {k : Nat} (hk : k < 4) (h : ∀ I', (∀ a, a ≠ 198 → I' a = I a) → (∀ i, i < 152 → I' 198 i = I 211 (152 * k + i)) → Q (some (.int (I 211 (152 * k + 4)))) I' L (gg Lx ρ)) : ∀ m i I', i + m = 152 → (∀ a, a ≠ 198 → I' a = I a) → (∀ j, j < i → I' 198 j = I 211 (152 * k + j)) → am_W am_all (am_run (d + 1)) e_Model_back Q 25 [.ref 186, .int (nI k), .int (nI i)] [] I' L (gg Lx ρ) 0 0
  | 0, i, I', e, h1, h2 => by
    have e : i = 152 := e
    subst e
    have hno : ¬ nI 152 < 152 := by decide
    exact sy_Model_back_25 _ _ (fun _ => by rw [h2 4 (by omega)]; exact h I' h1 h2) (fun z => absurd z hno) (fun z => absurd z hno) (fun z => absurd z hno)
  | m + 1, i, I', e, h1, h2 => by
    have hi : nI i < 152 := nI_lt (b := 152) (by omega) (by decide)
    refine sy_Model_back_25 _ _ (fun z => absurd hi z) (fun _ => by rw [k152]; exact vp_in_nI (by omega) (by decide)) (fun _ => vp_in_nI (by omega) (by decide)) (fun _ => ?_)
    rw [k152, nI_clamp (by omega), nI_clamp (by omega), nI_1, h1 211 (by decide)]
    refine lp_mbk hk h m (i + 1) _ (by omega) (fun a z => by rw [am_u_ne z]; exact h1 a z) (fun j hj => ?_)
    by_cases q : j = i
    · subst q; rw [am_u_at]
    · rw [am_u_nk q]; exact h2 j (by omega)
theorem sp_Model_back {I : am_I} {L : am_L} {k : Nat} (hk : k < 4) (hmd : ¬ I 212 k = 0)
    (h : ∀ I', (∀ a, a ≠ 198 → I' a = I a) → (∀ i, i < 152 → I' 198 i = I 211 (152 * k + i)) → Q (some (.int (I 211 (152 * k + 4)))) I' L (gg Lx ρ)) : am_run (d + 2) m_Model_back [.ref 186, .int (nI k)] I L (gg Lx ρ) Q := by
  have e : (nI k).toNatClampNeg = k := nI_clamp (by omega)
  have hv : vN 4 (nI k) := ⟨nI_pos (by omega), nI_lt hk (by decide)⟩
  exact run_in rfl rfl ⟨rfl, rfl⟩ (sy_Model_back_0 _ (fun z => absurd (in4.mpr hv) z) (fun _ => vp_in_nI hk (by decide)) (fun _ _ => lp_mbk hk h 152 0 I rfl (fun _ _ => rfl) (fun j hj => absurd hj (by omega))) (fun _ z => absurd (by rw [e] at z; exact z) hmd))
theorem sp_Model_back0 {I : am_I} {L : am_L} {w : Int32} (hw : ¬ vN 4 w ∨ I 212 w.toNatClampNeg = 0) (h : Q (some (.int (-1))) I L (gg Lx ρ)) : am_run (d + 2) m_Model_back [.ref 186, .int w] I L (gg Lx ρ) Q :=
  run_in rfl rfl ⟨rfl, rfl⟩ (sy_Model_back_0 _ (fun _ => h) (fun z => vin (in4.mp z).1 (in4.mp z).2 rfl (by decide)) (fun z z2 => hw.elim (fun q => absurd (in4.mp z) q) (fun q => absurd q z2)) (fun _ _ => h))
/-! ===== the tape ===== -/
def byC (x : Int32) (j : Nat) : Int32 := (x.toUInt32 >>> ((nI (24 - 8 * j)).toUInt32 &&& Int32.toUInt32 31)).toInt32 &&& 255
theorem i32_and255 (y : Int32) : ∃ b, b < 256 ∧ y &&& 255 = nI b := by
  refine ⟨(y &&& 255).toBitVec.toNat, ?_, ?_⟩
  · rw [Int32.toBitVec_and, BitVec.toNat_and]
    exact Nat.lt_of_le_of_lt Nat.and_le_right (by decide)
  · apply Int32.toBitVec_inj.mp
    show _ = BitVec.ofNat 32 _
    rw [BitVec.ofNat_toNat, BitVec.setWidth_eq]
theorem tp8 (x : Int32) (s : Nat) (hs : s = 24 ∨ s = 16 ∨ s = 8 ∨ s = 0) : Int32.toInt8 (x >>> (nI s &&& 31)) = Int32.toInt8 ((x.toUInt32 >>> ((nI s).toUInt32 &&& Int32.toUInt32 31)).toInt32 &&& 255) := by
  have h1 : (x >>> (nI s &&& 31)).toBitVec = x.toBitVec.sshiftRight s := by rcases hs with rfl | rfl | rfl | rfl <;> rfl
  have h2 : ((x.toUInt32 >>> ((nI s).toUInt32 &&& Int32.toUInt32 31)).toInt32).toBitVec = x.toBitVec >>> s := by rcases hs with rfl | rfl | rfl | rfl <;> rfl
  have h3 : ∀ i, i < 8 → (Int32.toBitVec 255).getLsbD i = true := by decide
  apply Int8.toBitVec_inj.mp
  rw [Int32.toBitVec_toInt8, Int32.toBitVec_toInt8, Int32.toBitVec_and, h1, h2]
  apply BitVec.eq_of_getLsbD_eq
  intro i hi
  have h4 : s + i < 32 := by omega
  rw [BitVec.getLsbD_signExtend, BitVec.getLsbD_signExtend, BitVec.getLsbD_and, BitVec.getLsbD_sshiftRight, BitVec.getLsbD_ushiftRight, h3 i hi]
  simp [hi, h4, show i < 32 by omega, show ¬ 32 ≤ i by omega]
theorem tp8j (x : Int32) (j : Nat) (hj : j < 4) : Int8.toInt32 (Int32.toInt8 (Int8.toInt32 (Int32.toInt8 (x >>> (nI (24 - 8 * j) &&& 31))))) = (byC x j).toInt8.toInt32 := by
  rw [Int8.toInt8_toInt32, tp8 x (24 - 8 * j) (by omega)]; rfl
theorem sh8 : ∀ j, j < 3 → nI (24 - 8 * j) + (-8) = nI (24 - 8 * (j + 1)) := by decide
theorem lp_put {I : am_I} {L : am_L} {K : am_C} {x : Int32} {t : Nat} (ht : t + 4 ≤ 400)
    (h : ∀ I', frc [13, 14] I I' → I' 13 1 = nI (t + 4) → (∀ i, i < t → I' 14 i = I 14 i) → (∀ j, j < 4 → I' 14 (t + j) = byC x j) → Q none I' L (gg Lx ρ)) : ∀ k j I' (s : Int32), j + k = 4 → (j < 4 → s = nI (24 - 8 * j)) → (j = 4 → s < 0) → frc [13, 14] I I' → I' 13 1 = nI (t + j) → (∀ i, i < t → I' 14 i = I 14 i) → (∀ i, i < j → I' 14 (t + i) = byC x i) → am_W am_all K e_Tape_put Q 3 [.ref 13, .int x, .int s] [] I' L (gg Lx ρ) 0 0
  | 0, j, I', s, e, h1, h2, f1, v1, v2, v3 => by
    have e : j = 4 := e
    subst e
    have hs := h2 rfl
    exact sz_Tape_put_3 _ _ (fun _ => h I' f1 v1 v2 v3) (fun z => absurd hs z) (fun z => absurd hs z) (fun z => absurd hs z)
  | k + 1, j, I', s, e, h1, h2, f1, v1, v2, v3 => by
    have hs := h1 (by omega)
    subst hs
    have hlt : I' 13 1 < 400 := by rw [v1]; exact nI_lt (b := 400) (by omega) (by decide)
    refine sz_Tape_put_3 _ _ (fun z => absurd z (nI_pos (by omega))) (fun _ z => absurd hlt z) (fun _ _ => by rw [v1]; exact vp_in_nI (by omega) (by decide)) (fun _ _ => ?_)
    rw [v1, nI_clamp (by omega), nI_1]
    refine lp_put ht h k (j + 1) _ _ (by omega) (fun z => sh8 j (by omega)) (fun z => ?_) ((f1.u (by simp)).u (by simp)) am_u_at (fun i hi => ?_) (fun i hi => ?_)
    · have : j = 3 := by omega
      subst this; decide
    · rw [am_u_ne (by decide), am_u_nk (by omega)]; exact v2 i hi
    · rw [am_u_ne (by decide)]
      by_cases q : i = j
      · subst q; rw [am_u_at]; rfl
      · rw [am_u_nk (by omega)]; exact v3 i (by omega)
theorem sp_Tape_put {I : am_I} {L : am_L} {x : Int32} {t : Nat} (ht : t + 4 ≤ 400) (h0 : I 13 1 = nI t)
    (h : ∀ I', frc [13, 14] I I' → I' 13 1 = nI (t + 4) → (∀ i, i < t → I' 14 i = I 14 i) → (∀ j, j < 4 → I' 14 (t + j) = byC x j) → Q none I' L (gg Lx ρ)) : am_run (d + 1) m_Tape_put [.ref 13, .int x] I L (gg Lx ρ) Q :=
  run_in rfl rfl ⟨rfl, rfl⟩ (sz_Tape_put_0 _ (lp_put ht h 4 0 I 24 rfl (fun _ => rfl) (fun z => absurd z (by decide)) frc.rf h0 (fun _ _ => rfl) (fun i hi => absurd hi (by omega))))
/-- the twenty bytes of a call -/
def fdB (a b c e g : Int32) (i : Nat) : Int32 := if i < 4 then byC a i else if i < 8 then byC b (i - 4) else if i < 12 then byC c (i - 8) else if i < 16 then byC e (i - 12) else byC g (i - 16)
theorem fd4 {a b c e g : Int32} {j : Nat} (hj : j < 4) : fdB a b c e g j = byC a j ∧ fdB a b c e g (4 + j) = byC b j ∧ fdB a b c e g (8 + j) = byC c j ∧ fdB a b c e g (12 + j) = byC e j ∧ fdB a b c e g (16 + j) = byC g j := by
  unfold fdB
  refine ⟨if_pos hj, ?_, ?_, ?_, ?_⟩
  · rw [if_neg (by omega), if_pos (by omega), show 4 + j - 4 = j by omega]
  · rw [if_neg (by omega), if_neg (by omega), if_pos (by omega), show 8 + j - 8 = j by omega]
  · rw [if_neg (by omega), if_neg (by omega), if_neg (by omega), if_pos (by omega), show 12 + j - 12 = j by omega]
  · rw [if_neg (by omega), if_neg (by omega), if_neg (by omega), if_neg (by omega), show 16 + j - 16 = j by omega]
theorem j20 {j : Nat} (hj : j < 20) : j < 4 ∨ (∃ q, q < 4 ∧ j = 4 + q) ∨ (∃ q, q < 4 ∧ j = 8 + q) ∨ (∃ q, q < 4 ∧ j = 12 + q) ∨ ∃ q, q < 4 ∧ j = 16 + q := by
  by_cases h1 : j < 4
  · exact Or.inl h1
  · by_cases h2 : j < 8
    · exact Or.inr (Or.inl ⟨j - 4, by omega, by omega⟩)
    · by_cases h3 : j < 12
      · exact Or.inr (Or.inr (Or.inl ⟨j - 8, by omega, by omega⟩))
      · by_cases h4 : j < 16
        · exact Or.inr (Or.inr (Or.inr (Or.inl ⟨j - 12, by omega, by omega⟩)))
        · exact Or.inr (Or.inr (Or.inr (Or.inr ⟨j - 16, by omega, by omega⟩)))
theorem sp_LL_feed {I : am_I} {L : am_L} {t : Nat} {a b c e g : Int32} (ht : t + 20 ≤ 400) (h0 : I 13 1 = nI t)
    (h : ∀ I', frc [13, 14] I I' → I' 13 1 = nI (t + 20) → (∀ i, i < t → I' 14 i = I 14 i) → (∀ j, j < 20 → I' 14 (t + j) = fdB a b c e g j) → Q (some (.int (nI (t + 20)))) I' L (gg Lx ρ)) : am_run (d + 2) m_LL_feed [.ref 12, .int a, .int b, .int c, .int e, .int g] I L (gg Lx ρ) Q := by
  have k20 : I 13 1 + 20 = nI (t + 20) := by rw [h0, show (20 : Int32) = nI 20 from rfl, nI_add]
  refine run_in rfl rfl ⟨rfl, rfl⟩ (sz_LL_feed_0 _ _ _ _ _ (fun _ => ?_) (fun z => absurd z (by rw [k20]; exact nI_nlt (a := 400) (by omega) (by decide))))
  refine sp_Tape_put (by omega) h0 (fun I1 f1 l1 o1 n1 => sz_LL_feed_26 _ _ _ _ _ ?_)
  refine sp_Tape_put (by omega) l1 (fun I2 f2 l2 o2 n2 => sz_LL_feed_34 _ _ _ _ _ ?_)
  refine sp_Tape_put (by omega) l2 (fun I3 f3 l3 o3 n3 => sz_LL_feed_42 _ _ _ _ _ ?_)
  refine sp_Tape_put (by omega) l3 (fun I4 f4 l4 o4 n4 => sz_LL_feed_51 _ _ _ _ _ ?_)
  refine sp_Tape_put (by omega) l4 (fun I5 f5 l5 o5 n5 => sz_LL_feed_60 _ _ _ _ _ ?_)
  rw [l5]
  refine h I5 ((((f1.tr f2).tr f3).tr f4).tr f5) l5 (fun i hi => ?_) (fun j hj => ?_)
  · rw [o5 i (by omega), o4 i (by omega), o3 i (by omega), o2 i (by omega), o1 i hi]
  · rcases j20 hj with z | ⟨q, z, rfl⟩ | ⟨q, z, rfl⟩ | ⟨q, z, rfl⟩ | ⟨q, z, rfl⟩
    · rw [(fd4 z).1, o5 _ (by omega), o4 _ (by omega), o3 _ (by omega), o2 _ (by omega)]; exact n1 j z
    · rw [(fd4 z).2.1, o5 _ (by omega), o4 _ (by omega), o3 _ (by omega), show t + (4 + q) = t + 4 + q by omega]; exact n2 q z
    · rw [(fd4 z).2.2.1, o5 _ (by omega), o4 _ (by omega), show t + (8 + q) = t + 4 + 4 + q by omega]; exact n3 q z
    · rw [(fd4 z).2.2.2.1, o5 _ (by omega), show t + (12 + q) = t + 4 + 4 + 4 + q by omega]; exact n4 q z
    · rw [(fd4 z).2.2.2.2, show t + (16 + q) = t + 4 + 4 + 4 + 4 + q by omega]; exact n5 q z
theorem sp_LL_feed0 {I : am_I} {L : am_L} {t : Nat} {a b c e g : Int32} (ht : 400 < t + 20) (ht4 : t ≤ 400) (h0 : I 13 1 = nI t) (h : Q (some (.int (-1))) I L (gg Lx ρ)) : am_run (d + 1) m_LL_feed [.ref 12, .int a, .int b, .int c, .int e, .int g] I L (gg Lx ρ) Q := by
  have k20 : I 13 1 + 20 = nI (t + 20) := by rw [h0, show (20 : Int32) = nI 20 from rfl, nI_add]
  exact run_in rfl rfl ⟨rfl, rfl⟩ (sz_LL_feed_0 _ _ _ _ _ (fun z => absurd (by rw [k20]; exact nI_lt (a := 400) (by omega) (by omega)) z) (fun _ => h))
theorem lp_four {I : am_I} {L : am_L} {K : am_C} {x : Int32} {t : Nat} (ht : t + 4 ≤ 400)
    (h : ∀ I', frm [187] [1] I I' → I' 186 1 = nI (t + 4) → (∀ i, i < t → I' 187 i = I 187 i) → (∀ j, j < 4 → I' 187 (t + j) = (byC x j).toInt8.toInt32) → Q none I' L (gg Lx ρ)) : ∀ k j I' (s : Int32), j + k = 4 → (j < 4 → s = nI (24 - 8 * j)) → (j = 4 → s < 0) → frm [187] [1] I I' → I' 186 1 = nI (t + j) → (∀ i, i < t → I' 187 i = I 187 i) → (∀ i, i < j → I' 187 (t + i) = (byC x i).toInt8.toInt32) → am_W am_all K e_Model_four Q 3 [.ref 186, .int x, .int s] [] I' L (gg Lx ρ) 0 0
  | 0, j, I', s, e, h1, h2, f1, v1, v2, v3 => by
    have e : j = 4 := e
    subst e
    have hs := h2 rfl
    exact sz_Model_four_3 _ _ (fun _ => h I' f1 v1 v2 v3) (fun z => absurd hs z) (fun z => absurd hs z)
  | k + 1, j, I', s, e, h1, h2, f1, v1, v2, v3 => by
    have hs := h1 (by omega)
    subst hs
    refine sz_Model_four_3 _ _ (fun z => absurd z (nI_pos (by omega))) (fun _ => by rw [v1]; exact vp_in_nI (by omega) (by decide)) (fun _ => ?_)
    rw [v1, nI_clamp (by omega), nI_1, tp8j x j (by omega)]
    refine lp_four ht h k (j + 1) _ _ (by omega) (fun z => sh8 j (by omega)) (fun z => ?_) ((f1.u (by simp) (by decide)).uf (by simp)) am_u_at (fun i hi => ?_) (fun i hi => ?_)
    · have : j = 3 := by omega
      subst this; decide
    · rw [am_u_ne (by decide), am_u_nk (by omega)]; exact v2 i hi
    · rw [am_u_ne (by decide)]
      by_cases q : i = j
      · subst q; rw [am_u_at]
      · rw [am_u_nk (by omega)]; exact v3 i (by omega)
theorem sp_Model_four {I : am_I} {L : am_L} {x : Int32} {t : Nat} (ht : t + 4 ≤ 400) (h0 : I 186 1 = nI t)
    (h : ∀ I', frm [187] [1] I I' → I' 186 1 = nI (t + 4) → (∀ i, i < t → I' 187 i = I 187 i) → (∀ j, j < 4 → I' 187 (t + j) = (byC x j).toInt8.toInt32) → Q none I' L (gg Lx ρ)) : am_run (d + 1) m_Model_four [.ref 186, .int x] I L (gg Lx ρ) Q :=
  run_in rfl rfl ⟨rfl, rfl⟩ (sz_Model_four_0 _ (lp_four ht h 4 0 I 24 rfl (fun _ => rfl) (fun z => absurd z (by decide)) frm.rf h0 (fun _ _ => rfl) (fun i hi => absurd hi (by omega))))
theorem sp_Model_feed {I : am_I} {L : am_L} {t : Nat} {a b c e g : Int32} (ht : t + 20 ≤ 400) (h0 : I 186 1 = nI t)
    (h : ∀ I', frm [187] [1] I I' → I' 186 1 = nI (t + 20) → (∀ i, i < t → I' 187 i = I 187 i) → (∀ j, j < 20 → I' 187 (t + j) = (fdB a b c e g j).toInt8.toInt32) → Q (some (.int (nI (t + 20)))) I' L (gg Lx ρ)) : am_run (d + 2) m_Model_feed [.ref 186, .int a, .int b, .int c, .int e, .int g] I L (gg Lx ρ) Q := by
  have k20 : I 186 1 + 20 = nI (t + 20) := by rw [h0, show (20 : Int32) = nI 20 from rfl, nI_add]
  refine run_in rfl rfl ⟨rfl, rfl⟩ (sz_Model_feed_0 _ _ _ _ _ (fun _ => ?_) (fun z => absurd z (by rw [k20]; exact nI_nlt (a := 400) (by omega) (by decide))))
  refine sp_Model_four (by omega) h0 (fun I1 f1 l1 o1 n1 => sz_Model_feed_20 _ _ _ _ _ ?_)
  refine sp_Model_four (by omega) l1 (fun I2 f2 l2 o2 n2 => sz_Model_feed_25 _ _ _ _ _ ?_)
  refine sp_Model_four (by omega) l2 (fun I3 f3 l3 o3 n3 => sz_Model_feed_30 _ _ _ _ _ ?_)
  refine sp_Model_four (by omega) l3 (fun I4 f4 l4 o4 n4 => sz_Model_feed_36 _ _ _ _ _ ?_)
  refine sp_Model_four (by omega) l4 (fun I5 f5 l5 o5 n5 => sz_Model_feed_42 _ _ _ _ _ ?_)
  rw [l5]
  refine h I5 ((((f1.tr f2).tr f3).tr f4).tr f5) l5 (fun i hi => ?_) (fun j hj => ?_)
  · rw [o5 i (by omega), o4 i (by omega), o3 i (by omega), o2 i (by omega), o1 i hi]
  · rcases j20 hj with z | ⟨q, z, rfl⟩ | ⟨q, z, rfl⟩ | ⟨q, z, rfl⟩ | ⟨q, z, rfl⟩
    · rw [(fd4 z).1, o5 _ (by omega), o4 _ (by omega), o3 _ (by omega), o2 _ (by omega)]; exact n1 j z
    · rw [(fd4 z).2.1, o5 _ (by omega), o4 _ (by omega), o3 _ (by omega), show t + (4 + q) = t + 4 + q by omega]; exact n2 q z
    · rw [(fd4 z).2.2.1, o5 _ (by omega), o4 _ (by omega), show t + (8 + q) = t + 4 + 4 + q by omega]; exact n3 q z
    · rw [(fd4 z).2.2.2.1, o5 _ (by omega), show t + (12 + q) = t + 4 + 4 + 4 + q by omega]; exact n4 q z
    · rw [(fd4 z).2.2.2.2, show t + (16 + q) = t + 4 + 4 + 4 + 4 + q by omega]; exact n5 q z
theorem sp_Model_feed0 {I : am_I} {L : am_L} {t : Nat} {a b c e g : Int32} (ht : 400 < t + 20) (ht4 : t ≤ 400) (h0 : I 186 1 = nI t) (h : Q (some (.int (-1))) I L (gg Lx ρ)) : am_run (d + 1) m_Model_feed [.ref 186, .int a, .int b, .int c, .int e, .int g] I L (gg Lx ρ) Q := by
  have k20 : I 186 1 + 20 = nI (t + 20) := by rw [h0, show (20 : Int32) = nI 20 from rfl, nI_add]
  exact run_in rfl rfl ⟨rfl, rfl⟩ (sz_Model_feed_0 _ _ _ _ _ (fun z => absurd (by rw [k20]; exact nI_lt (a := 400) (by omega) (by omega)) z) (fun _ => h))
theorem sp_LL_end {I : am_I} {L : am_L} {x : Int32} (h1 : ¬ x < 0 → ¬ I 13 1 < x → Q (some (.int x)) (am_u I 13 1 x) L (gg Lx ρ)) (h0 : x < 0 ∨ I 13 1 < x → Q (some (.int (-1))) I L (gg Lx ρ)) : am_run (d + 1) m_LL_end [.ref 12, .int x] I L (gg Lx ρ) Q :=
  run_in rfl rfl ⟨rfl, rfl⟩ (sz_LL_end_0 _ (fun z => h0 (Or.inl z)) h1 (fun _ z => h0 (Or.inr z)))
theorem sp_Model_end {I : am_I} {L : am_L} {x : Int32} (h1 : ¬ x < 0 → ¬ I 186 1 < x → Q (some (.int x)) (am_u I 186 1 x) L (gg Lx ρ)) (h0 : x < 0 ∨ I 186 1 < x → Q (some (.int (-1))) I L (gg Lx ρ)) : am_run (d + 1) m_Model_end [.ref 186, .int x] I L (gg Lx ρ) Q :=
  run_in rfl rfl ⟨rfl, rfl⟩ (sz_Model_end_0 _ (fun z => h0 (Or.inl z)) h1 (fun _ z => h0 (Or.inr z)))
end IMG
