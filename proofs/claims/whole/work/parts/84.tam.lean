/-! ===== the reference reads the tape ===== -/
def sB (b : Nat) : Int32 := (nI b).toInt8.toInt32
theorem sB_1 : ∀ b, b < 256 → (b < 128 → sB b = nI b) ∧ (128 ≤ b → sB b < 0) ∧ sB b &&& 255 = nI b := by decide +kernel
theorem sB_eq {b c : Nat} (hb : b < 256) (hc : c < 128) : sB b = nI c ↔ b = c := by
  obtain ⟨h1, h2, h3⟩ := sB_1 b hb
  by_cases z : b < 128
  · rw [h1 z]; exact nI_eq (by omega) (by omega)
  · constructor
    · intro q; rw [q] at h2; exact absurd (h2 (by omega)) (nI_pos (by omega))
    · intro q; omega
theorem sB_btw {b lo hi : Nat} (hb : b < 256) (h0 : 0 < lo) (hlo : lo < 128) (hhi : hi < 128) : (¬ sB b < nI lo ∧ ¬ nI hi < sB b) ↔ lo ≤ b ∧ b ≤ hi := by
  obtain ⟨h1, h2, h3⟩ := sB_1 b hb
  by_cases z : b < 128
  · rw [h1 z]
    exact ⟨fun q => ⟨Nat.le_of_not_lt fun y => q.1 (nI_lt y (by omega)), Nat.le_of_not_lt fun y => q.2 (nI_lt y (by omega))⟩, fun q => ⟨nI_nlt q.1 (by omega), nI_nlt q.2 (by omega)⟩⟩
  · constructor
    · intro q; exact absurd (Int32.lt_of_lt_of_le (h2 (by omega)) (nI_pos' (by omega))) q.1
    · intro q; omega
def tpM (I : am_I) (B : Nat → Nat) (t : Nat) : Prop := I 186 1 = nI t ∧ t ≤ 400 ∧ ∀ i, i < t → I 187 i = sB (B i) ∧ B i < 256
def mcu (I : am_I) (p e : Nat) : Prop := I 186 14 = nI p ∧ I 186 15 = nI e
/-- of the reference only the fields F are changed -/
abbrev frF (F : List Nat) (I I' : am_I) : Prop := frm [] F I I'
theorem tpM_fr {S F : List Nat} {I I' : am_I} {B : Nat → Nat} {t : Nat} (h : frm S F I I') (hS : 187 ∉ S) (hF : 1 ∉ F) (hT : tpM I B t) : tpM I' B t := ⟨(h.2 1 hF).trans hT.1, hT.2.1, by rw [h.1 187 (by decide) hS]; exact hT.2.2⟩
theorem mFail_n {I : am_I} {p e q w : Nat} (he : e < 2 ^ 31) (hc : mcu I p e) : frF [15] I (mFail I (nI w) (nI q)) ∧ mcu (mFail I (nI w) (nI q)) p (ff e (1 + 8 * q + w)) := by
  unfold mFail ff
  rw [hc.2]
  by_cases z : e = 0
  · subst z
    rw [if_pos (show nI 0 = 0 from rfl), if_pos rfl]
    refine ⟨frm.rf.uf (by simp), by rw [am_u_nk (by decide)]; exact hc.1, ?_⟩
    rw [am_u_at, show (1 : Int32) = nI 1 from rfl, show (8 : Int32) = nI 8 from rfl, pk_mul, nI_add, nI_add]
  · rw [if_neg (nI_ne0 (by omega) he), if_neg z]
    exact ⟨frm.rf, hc⟩
def pack (l : List Nat) : Nat := l.foldl (fun a x => a * 256 + x) 0
theorem pack_sn (l : List Nat) (x : Nat) : pack (l ++ [x]) = pack l * 256 + x := by unfold pack; rw [List.foldl_append]; rfl
theorem pack_inj : ∀ (l l' : List Nat), (∀ x ∈ l, 0 < x ∧ x < 256) → (∀ x ∈ l', 0 < x ∧ x < 256) → pack l = pack l' → l = l' := by
  refine snoc_ind (fun l' _ h2 e => ?_) (fun l x ih l' h1 h2 e => ?_)
  · rcases List.eq_nil_or_concat l' with rfl | ⟨m, y, rfl⟩
    · rfl
    · rw [List.concat_eq_append] at h2 e
      rw [pack_sn] at e
      have := h2 y (by simp)
      have e : 0 = pack m * 256 + y := e
      omega
  · rcases List.eq_nil_or_concat l' with rfl | ⟨m, y, rfl⟩
    · rw [pack_sn] at e
      have := h1 x (by simp)
      have e : pack l * 256 + x = 0 := e
      omega
    · rw [List.concat_eq_append] at h2 e ⊢
      rw [pack_sn, pack_sn] at e
      have hx := h1 x (by simp)
      have hy := h2 y (by simp)
      have e1 : x = y := by omega
      rw [ih m (fun z hz => h1 z (List.mem_append_left _ hz)) (fun z hz => h2 z (List.mem_append_left _ hz)) (by omega), e1]
theorem pack_lt : ∀ (l : List Nat), (∀ x ∈ l, x < 256) → pack l < 256 ^ l.length := by
  refine snoc_ind (fun _ => by show 0 < 256 ^ 0; decide) (fun l x ih h => ?_)
  have h1 := ih (fun y hy => h y (List.mem_append_left _ hy))
  have h2 := h x (by simp)
  rw [pack_sn, List.length_append]
  show pack l * 256 + x < 256 ^ (l.length + 1)
  rw [Nat.pow_succ]; omega
/-- the letters from q on -/
def bys (B : Nat → Nat) (q n : Nat) : List Nat := (List.range n).map (fun i => B (q + i))
theorem bys_s (B : Nat → Nat) (q n : Nat) : bys B q (n + 1) = bys B q n ++ [B (q + n)] := by unfold bys; rw [List.range_succ, List.map_append]; rfl
theorem bys_l (B : Nat → Nat) (q n : Nat) : (bys B q n).length = n := by unfold bys; simp
/-- how many letters stand at q -/
def lrun (B : Nat → Nat) (t q : Nat) : Nat := run1 (isL B) t 401 q - q
theorem lrun_p {B : Nat → Nat} {t q : Nat} (hq : q ≤ t) (ht : t ≤ 400) : q + lrun B t q ≤ t ∧ (∀ i, i < lrun B t q → isL B (q + i) = true ∧ q + i < t) ∧ ¬ (q + lrun B t q < t ∧ isL B (q + lrun B t q) = true) ∧ run1 (isL B) t 401 q = q + lrun B t q := by
  have h1 := run1_le (G := isL B) (t := t) 401 q hq
  have e : q + lrun B t q = run1 (isL B) t 401 q := by unfold lrun; omega
  refine ⟨by omega, fun i hi => run1_in 401 q (q + i) (by omega) (by omega), ?_, e.symm⟩
  rw [e]; exact run1_st 401 q hq (by omega)
theorem isW_run {B : Nat → Nat} {t q : Nat} {w : List Nat} (hq : q ≤ t) (ht : t ≤ 400) (hw : ∀ c ∈ w, 97 ≤ c ∧ c ≤ 122) : isW B t q w = true ↔ bys B q (lrun B t q) = w := by
  obtain ⟨h1, h2, h3, h4⟩ := lrun_p (B := B) hq ht
  unfold isW
  rw [decide_eq_true_iff]
  constructor
  · rintro ⟨a, b⟩
    have hwl : q + w.length ≤ t := by
      by_cases z : w.length = 0
      · omega
      · have := (a (w.length - 1) (by omega)).1; omega
    have e : run1 (isL B) t 401 q = q + w.length := by
      refine run1_eq (by omega) hwl (by omega) (fun i i1 i2 => ?_) b
      have := a (i - q) (by omega)
      rw [show q + (i - q) = i by omega] at this
      refine decide_eq_true ?_
      rw [this.2, List.getD_eq_getElem?_getD, List.getElem?_eq_getElem (by omega)]
      exact hw _ (List.getElem_mem _)
    have e2 : lrun B t q = w.length := by omega
    rw [e2]
    refine List.ext_getElem? (fun i => ?_)
    by_cases i2 : i < w.length
    · have := (a i i2).2
      rw [List.getD_eq_getElem?_getD, List.getElem?_eq_getElem i2] at this
      unfold bys
      rw [List.getElem?_map, List.getElem?_range i2, List.getElem?_eq_getElem i2]
      exact congrArg some this
    · rw [List.getElem?_eq_none (by rw [bys_l]; omega), List.getElem?_eq_none (by omega)]
  · intro e
    have el : w.length = lrun B t q := by rw [← e, bys_l]
    rw [el]
    refine ⟨fun i hi => ⟨(h2 i hi).2, ?_⟩, h3⟩
    rw [← e]
    unfold bys
    rw [List.getD_eq_getElem?_getD, List.getElem?_map, List.getElem?_range hi]; rfl
section TAM
variable {d Lx : Nat} {ρ : List (Nat × Nat)} {Q : am_Q} {Rs : List (List (Nat × List Nat))}
theorem mLet_n {I : am_I} {B : Nat → Nat} {t p : Nat} (hT : tpM I B t) (hp : p ≤ 400) : mLet I (nI p) ↔ (p < t ∧ isL B p = true) := by
  have h400 := hT.2.1
  unfold mLet
  rw [hT.1, nI_clamp (by omega)]
  constructor
  · rintro ⟨z1, z2⟩
    have hlt : p < t := Classical.byContradiction fun y => absurd z1 (nI_nlt (by omega) (by omega))
    obtain ⟨b1, b2⟩ := hT.2.2 p hlt
    rw [b1] at z2
    exact ⟨hlt, decide_eq_true ((sB_btw (lo := 97) (hi := 122) b2 (by decide) (by decide) (by decide)).mp z2)⟩
  · rintro ⟨z1, z2⟩
    obtain ⟨b1, b2⟩ := hT.2.2 p z1
    rw [b1]
    exact ⟨nI_lt z1 (by omega), (sB_btw (lo := 97) (hi := 122) b2 (by decide) (by decide) (by decide)).mpr (of_decide_eq_true z2)⟩
theorem mDig_n {I : am_I} {B : Nat → Nat} {t p : Nat} (hT : tpM I B t) (hp : p ≤ 400) : mDig I (nI p) ↔ (p < t ∧ isD B p = true) := by
  have h400 := hT.2.1
  unfold mDig
  rw [hT.1, nI_clamp (by omega)]
  constructor
  · rintro ⟨z1, z2⟩
    have hlt : p < t := Classical.byContradiction fun y => absurd z1 (nI_nlt (by omega) (by omega))
    obtain ⟨b1, b2⟩ := hT.2.2 p hlt
    rw [b1] at z2
    exact ⟨hlt, decide_eq_true ((sB_btw (lo := 48) (hi := 57) b2 (by decide) (by decide) (by decide)).mp z2)⟩
  · rintro ⟨z1, z2⟩
    obtain ⟨b1, b2⟩ := hT.2.2 p z1
    rw [b1]
    exact ⟨nI_lt z1 (by omega), (sB_btw (lo := 48) (hi := 57) b2 (by decide) (by decide) (by decide)).mpr (of_decide_eq_true z2)⟩
theorem lp_see {I : am_I} {L : am_L} {K : am_C} {B : Nat → Nat} {t p e : Nat} (hT : tpM I B t)
    (h : ∀ I', frF [14] I I' → mcu I' (sk B t p) e → Q (some (.int (pk B t p))) I' L (gg Lx ρ)) : ∀ k q I', t < q + k → q ≤ sk B t p → sk B t p = run1 (isB B) t k q → sk B t p ≤ t → frF [14] I I' → mcu I' q e → am_W am_all K e_Model_see Q 0 [.ref 186] [] I' L (gg Lx ρ) 0 0
  | 0, q, I', hk, _, hs, ht, hf, hc => by
    have : sk B t p = q := hs
    omega
  | k + 1, q, I', hk, h2, hs, ht, hf, hc => by
    have hT' := tpM_fr hf (by simp) (by simp) hT
    have h400 := hT.2.1
    unfold run1 at hs
    by_cases hq : q < t
    · obtain ⟨b1, b2⟩ := hT'.2.2 q hq
      have eb : I' 187 (I' 186 14).toNatClampNeg = sB (B q) := by rw [hc.1, nI_clamp (by omega)]; exact b1
      have c1 : I' 186 14 < I' 186 1 := by rw [hc.1, hT'.1]; exact nI_lt hq (by omega)
      have c32 : I' 187 (I' 186 14).toNatClampNeg = 32 ↔ B q = 32 := by rw [eb]; exact sB_eq (c := 32) b2 (by decide)
      refine sz_Model_see_0 (fun z => absurd c1 z) (fun _ => by rw [hc.1]; exact vp_in_nI (by omega) (by decide)) (fun _ z => ?_) (fun _ z => ?_)
      · have hnb : ¬ (q < t ∧ isB B q = true) := fun y => z (c32.mpr (of_decide_eq_true y.2))
        rw [if_neg hnb] at hs
        have := h I' hf (by rw [hs]; exact hc)
        unfold pk at this
        rw [hs, if_pos hq] at this
        rw [eb, (sB_1 _ b2).2.2]; exact this
      · rw [if_pos ⟨hq, decide_eq_true (c32.mp z)⟩] at hs
        have hle := (run1_le (G := isB B) (t := t) k (q + 1) (by omega)).1
        rw [hc.1, nI_1]
        exact lp_see hT h k (q + 1) _ (by omega) (by omega) hs ht (hf.uf (by simp)) ⟨am_u_at, by rw [am_u_nk (by decide)]; exact hc.2⟩
    · rw [if_neg (fun y => hq y.1)] at hs
      have c1 : ¬ I' 186 14 < I' 186 1 := by rw [hc.1, hT'.1]; exact nI_nlt (by omega) (by omega)
      have := h I' hf (by rw [hs]; exact hc)
      unfold pk at this
      rw [hs, if_neg hq] at this
      exact sz_Model_see_0 (fun _ => this) (fun z => absurd z c1) (fun z => absurd z c1) (fun z => absurd z c1)
theorem sp_see {I : am_I} {L : am_L} {B : Nat → Nat} {t p e : Nat} (hT : tpM I B t) (hp : p ≤ t) (hc : mcu I p e)
    (h : ∀ I', frF [14] I I' → mcu I' (sk B t p) e → Q (some (.int (pk B t p))) I' L (gg Lx ρ)) : am_run (d + 1) m_Model_see [.ref 186] I L (gg Lx ρ) Q :=
  run_in rfl rfl ⟨rfl, rfl⟩ (lp_see hT h 401 p I (by have := hT.2.1; omega) (sk_le hp).1 rfl (sk_le hp).2 frm.rf hc)
theorem lp_iw {I : am_I} {L : am_L} {B : Nat → Nat} {t q e : Nat} {w : List Nat} {x1 : Int64} (hT : tpM I B t) (hq : q ≤ t) (hw : ∀ c ∈ w, 97 ≤ c ∧ c ≤ 122) (hwl : 0 < w.length ∧ w.length < 8) (hx : x1 = lN (pack w)) (hc : mcu I q e)
    (h : Q (some (.int (bI (isW B t q w = true)))) I L (gg Lx ρ)) : ∀ k n, n + k = lrun B t q → am_W am_all (am_run (d + 1)) e_Model_isWord Q 10 [.ref 186, .long x1, .null, .long (lN (pack (bys B q (min n 8)))), .null, .int (nI n)] [] I L (gg Lx ρ) 0 0
  | 0, n, e1 => by
    have e1 : n = lrun B t q := e1
    have h400 := hT.2.1
    obtain ⟨h1, h2, h3, h4⟩ := lrun_p (B := B) hq h400
    have ea : I 186 14 + nI n = nI (q + n) := by rw [hc.1, nI_add]
    have hnl : ¬ mLet I (I 186 14 + nI n) := by rw [ea, mLet_n hT (by omega), e1]; exact h3
    have hW := isW_run (B := B) (w := w) hq h400 hw
    have no : ¬ bys B q n = w → Q (some (.int 0)) I L (gg Lx ρ) := fun z => by
      rw [bI_f (fun y => z (by rw [e1]; exact hW.mp y))] at h; exact h
    have hin : I 186 14 + nI n < I 186 1 → vp_in (I 186 14 + nI n) 400 := fun z => by
      rw [ea, hT.1] at z
      rw [ea]
      exact vp_in_nI (by have : q + n < t := Classical.byContradiction fun y => absurd z (nI_nlt (by omega) (by omega))
                         omega) (by decide)
    have hlb : ∀ x ∈ bys B q n, 97 ≤ x ∧ x ≤ 122 := fun x hx => by
      unfold bys at hx
      obtain ⟨i, hi, ei⟩ := List.mem_map.mp hx
      rw [← ei]
      exact of_decide_eq_true (h2 i (by rw [← e1]; exact List.mem_range.mp hi)).1
    refine sy_Model_isWord_10 _ _ _ hin (fun _ z => no (fun y => ?_)) (fun _ _ z => no (fun y => ?_)) (fun _ _ z z2 => no (fun y => ?_)) (fun _ _ z z2 => ?_) (fun z => absurd z hnl) (fun z => absurd z hnl) (fun z => absurd z hnl)
    · have := bys_l B q n
      rw [y] at this
      exact z (nI_lt (a := 0) (by omega) (by omega))
    · have := bys_l B q n
      rw [y] at this
      exact z (nI_lt (b := 8) (by omega) (by decide))
    · have hn8 : n < 8 := Classical.byContradiction fun q2 => absurd z (nI_nlt (b := 8) (by omega) (by omega))
      rw [Nat.min_eq_left (by omega), y] at z2
      exact z2 hx.symm
    · have hn8 : n < 8 := Classical.byContradiction fun q2 => absurd z (nI_nlt (b := 8) (by omega) (by omega))
      rw [Nat.min_eq_left (by omega), hx] at z2
      have p1 := pack_lt (bys B q n) (fun x hx => by have := hlb x hx; omega)
      have p2 := pack_lt w (fun x hx => by have := hw x hx; omega)
      rw [bys_l] at p1
      have p3 : 256 ^ n ≤ 256 ^ 7 := Nat.pow_le_pow_right (by decide) (by omega)
      have p4 : 256 ^ w.length ≤ 256 ^ 7 := Nat.pow_le_pow_right (by decide) (by omega)
      have p5 : 256 ^ 7 = 72057594037927936 := by decide
      have ep : pack (bys B q n) = pack w := (pk_lEQ (by omega) (by omega)).mp z2
      have ew := pack_inj _ _ (fun x hx => by have := hlb x hx; omega) (fun x hx => by have := hw x hx; omega) ep
      rw [bI_t (hW.mpr (by rw [← e1]; exact ew))] at h; exact h
  | k + 1, n, e1 => by
    have h400 := hT.2.1
    obtain ⟨h1, h2, h3, h4⟩ := lrun_p (B := B) hq h400
    have ea : I 186 14 + nI n = nI (q + n) := by rw [hc.1, nI_add]
    have hl : mLet I (I 186 14 + nI n) := by rw [ea, mLet_n hT (by omega)]; exact ⟨(h2 n (by omega)).2, (h2 n (by omega)).1⟩
    have hlt : q + n < t := (h2 n (by omega)).2
    obtain ⟨b1, b2⟩ := hT.2.2 (q + n) hlt
    have hbl := of_decide_eq_true (h2 n (by omega)).1
    have hin : vp_in (I 186 14 + nI n) 400 := by rw [ea]; exact vp_in_nI (by omega) (by decide)
    refine sy_Model_isWord_10 _ _ _ (fun _ => hin) (fun z => absurd hl z) (fun z => absurd hl z) (fun z => absurd hl z) (fun z => absurd hl z) (fun _ z => ?_) (fun _ _ => hin) (fun _ z => ?_)
    · have hn8 : 8 ≤ n := Nat.le_of_not_lt fun y => z (nI_lt (b := 8) y (by decide))
      rw [nI_1]
      have := lp_iw hT hq hw hwl hx hc h k (n + 1) (by omega)
      rw [Nat.min_eq_right (by omega)] at this
      rw [Nat.min_eq_right (by omega)]; exact this
    · have hn8 : n < 8 := Classical.byContradiction fun q2 => absurd z (nI_nlt (b := 8) (by omega) (by omega))
      have hlb : ∀ x ∈ bys B q n, x < 256 := fun x hx => by
        unfold bys at hx
        obtain ⟨i, hi, ei⟩ := List.mem_map.mp hx
        rw [← ei]
        have := of_decide_eq_true (h2 i (by have := List.mem_range.mp hi; omega)).1
        omega
      have p1 := pack_lt (bys B q n) hlb
      rw [bys_l] at p1
      have p3 : 256 ^ n ≤ 256 ^ 7 := Nat.pow_le_pow_right (by decide) (by omega)
      have p5 : 256 ^ 7 = 72057594037927936 := by decide
      have eb : I 187 (I 186 14 + nI n).toNatClampNeg = nI (B (q + n)) := by rw [ea, nI_clamp (by omega), b1]; exact (sB_1 _ b2).1 (by omega)
      have := lp_iw hT hq hw hwl hx hc h k (n + 1) (by omega)
      rw [Nat.min_eq_left (by omega), bys_s, pack_sn] at this
      rw [Nat.min_eq_left (by omega), eb, nI_1, show ((8 : Int32) = nI 8) from rfl, wb_shl _ (by decide), nI_l (by omega), wb_or (by omega) (by omega), orP (by show B (q + n) < 256; exact b2)]
      exact this
theorem sp_isWord {I : am_I} {L : am_L} {B : Nat → Nat} {t p e : Nat} {w : List Nat} {x1 : Int64} (hT : tpM I B t) (hp : p ≤ t) (hw : ∀ c ∈ w, 97 ≤ c ∧ c ≤ 122) (hwl : 0 < w.length ∧ w.length < 8) (hx : x1 = lN (pack w)) (hc : mcu I p e)
    (h : ∀ I', frF [14] I I' → mcu I' (sk B t p) e → Q (some (.int (bI (isW B t (sk B t p) w = true)))) I' L (gg Lx ρ)) : am_run (d + 2) m_Model_isWord [.ref 186, .long x1] I L (gg Lx ρ) Q := by
  refine run_in rfl rfl ⟨rfl, rfl⟩ (sy_Model_isWord_0 _ ?_)
  refine sp_see hT hp hc (fun I1 f1 c1 => sy_Model_isWord_4 _ _ _ _ _ ?_)
  exact lp_iw (tpM_fr f1 (by simp) (by simp) hT) (sk_le hp).2 hw hwl hx c1 (h I1 f1 c1) (lrun B t (sk B t p)) 0 (by omega)
theorem lp_mpw {I : am_I} {L : am_L} {B : Nat → Nat} {t q e r : Nat} (hT : tpM I B t) (hr : r ≤ t)
    (h : ∀ I', frF [14] I I' → mcu I' r e → Q none I' L (gg Lx ρ)) : ∀ k p I', t < p + k → p ≤ t → run1 (isL B) t k p = r → frF [14] I I' → mcu I' p e → am_W am_all (am_run (d + 1)) e_Model_passWord Q 0 [.ref 186] [] I' L (gg Lx ρ) 0 0
  | 0, p, I', hk, _, _, _, _ => by omega
  | k + 1, p, I', hk, h2, hs, hf, hc => by
    have hT' := tpM_fr hf (by simp) (by simp) hT
    have h400 := hT.2.1
    unfold run1 at hs
    have hl := mLet_n (p := p) hT' (by omega)
    rw [← hc.1] at hl
    have hin : I' 186 14 < I' 186 1 → vp_in (I' 186 14) 400 := fun z => by
      rw [hc.1, hT'.1] at z
      rw [hc.1]
      exact vp_in_nI (by have : p < t := Classical.byContradiction fun y => absurd z (nI_nlt (by omega) (by omega))
                         omega) (by decide)
    refine sy_Model_passWord_0 hin (fun z => ?_) (fun z => ?_)
    · rw [if_neg (fun y => z (hl.mpr y))] at hs
      exact h I' hf (by rw [← hs]; exact hc)
    · rw [if_pos (hl.mp z)] at hs
      rw [hc.1, nI_1]
      exact lp_mpw (q := q) hT hr h k (p + 1) _ (by omega) (by have := (hl.mp z).1; omega) hs (hf.uf (by simp)) ⟨am_u_at, by rw [am_u_nk (by decide)]; exact hc.2⟩
theorem sp_mPass {I : am_I} {L : am_L} {B : Nat → Nat} {t q e : Nat} {w : List Nat} (hT : tpM I B t) (hq : q ≤ t) (hw : ∀ c ∈ w, 97 ≤ c ∧ c ≤ 122) (hW : isW B t q w = true) (hc : mcu I q e)
    (h : ∀ I', frF [14] I I' → mcu I' (q + w.length) e → Q none I' L (gg Lx ρ)) : am_run (d + 2) m_Model_passWord [.ref 186] I L (gg Lx ρ) Q := by
  have h400 := hT.2.1
  obtain ⟨h1, h2, h3, h4⟩ := lrun_p (B := B) hq h400
  have e1 := (isW_run hq h400 hw).mp hW
  have el : lrun B t q = w.length := by rw [← e1, bys_l]
  rw [el] at h1 h4
  exact run_in rfl rfl ⟨rfl, rfl⟩ (lp_mpw (q := q) hT h1 h 401 q I (by omega) hq h4 frm.rf hc)
theorem lp_nH {I : am_I} {L : am_L} {B : Nat → Nat} {t q e : Nat} {lo hi : Int32} (hT : tpM I B t) (hq : q ≤ t) (he : e < 2 ^ 31) {r : Nat × Nat} (hr : r.1 ≤ t) (hr2 : r.2 < 100000)
    (h : ∀ I', frF [14, 15, 16] I I' → mcu I' r.1 (ff e (if 5 < r.1 - q ∨ nI r.2 < lo ∨ hi < nI r.2 then 1 + 8 * q + 1 else 0)) → I' 186 16 = nI r.2 → Q (some (.int (bI (¬ (5 < r.1 - q ∨ nI r.2 < lo ∨ hi < nI r.2))))) I' L (gg Lx ρ)) : ∀ k p v I', t < p + k → q ≤ p → p ≤ t → nmL B t q k p v = r → frF [14, 15, 16] I I' → mcu I' p e → am_W am_all (am_run (d + 1)) e_Model_numberHere Q 34 [.ref 186, .int lo, .int hi, .int (nI q), .int (nI v)] [] I' L (gg Lx ρ) 0 0
  | 0, p, v, I', hk, _, _, _, _, _ => by omega
  | k + 1, p, v, I', hk, h1, h2, hn, hf, hc => by
    have hT' := tpM_fr hf (by simp) (by simp) hT
    have h400 := hT.2.1
    have es : I' 186 14 - nI q = nI (p - q) := by rw [hc.1, pk_sub h1]
    have hl := mDig_n (p := p) hT' (by omega)
    rw [← hc.1] at hl
    have hin : I' 186 14 < I' 186 1 → vp_in (I' 186 14) 400 := fun z => by
      rw [hc.1, hT'.1] at z
      rw [hc.1]
      exact vp_in_nI (by have : p < t := Classical.byContradiction fun y => absurd z (nI_nlt (by omega) (by omega))
                         omega) (by decide)
    unfold nmL at hn
    have c5 : 5 < I' 186 14 - nI q ↔ 5 < p - q := by
      rw [es]; exact ⟨fun z => Classical.byContradiction fun y => absurd z (nI_nlt (a := 5) (by omega) (by decide)), fun z => nI_lt (a := 5) z (by omega)⟩
    have bad : ¬ mDig I' (I' 186 14) → (5 < p - q ∨ nI v < lo ∨ hi < nI v) → Q (some (.int 0)) (mFail (am_u I' 186 16 (nI v)) 1 (nI q)) L (gg Lx ρ) := fun z z2 => by
      rw [if_neg (fun y => z (hl.mpr y))] at hn
      subst hn
      rw [if_pos z2] at h
      have hc2 : mcu (am_u I' 186 16 (nI v)) p e := ⟨by rw [am_u_nk (by decide)]; exact hc.1, by rw [am_u_nk (by decide)]; exact hc.2⟩
      obtain ⟨f2, c2⟩ := mFail_n (q := q) (w := 1) he hc2
      have := h _ ((hf.uf (by simp)).tr (f2.w (by simp) (by simp))) c2 (by rw [f2.2 16 (by simp), am_u_at])
      rw [bI_f (fun y => y z2)] at this; exact this
    refine sy_Model_numberHere_34 _ _ _ _ hin (fun z z2 => bad z (Or.inl (c5.mp z2))) (fun z z2 z3 => ?_) (fun z z2 z3 => bad z ?_) (fun z z2 => ?_) (fun z _ => by have := (hl.mp z).1; rw [hc.1]; exact vp_in_nI (by omega) (by decide)) (fun z z2 => ?_)
    · rw [if_neg (fun y => z (hl.mpr y))] at hn
      subst hn
      have z3 := mIn_i.mp z3
      have hno : ¬ (5 < p - q ∨ nI v < lo ∨ hi < nI v) := fun y => y.elim (fun y => z2 (c5.mpr y)) (fun y => y.elim z3.1 z3.2)
      rw [if_neg hno] at h
      have := h (am_u I' 186 16 (nI v)) (hf.uf (by simp)) ⟨by rw [am_u_nk (by decide)]; exact hc.1, by
        rw [am_u_nk (by decide)]
        unfold ff
        by_cases y : e = 0
        · rw [if_pos y]; rw [y] at hc; exact hc.2
        · rw [if_neg y]; exact hc.2⟩ am_u_at
      rw [bI_t hno] at this; exact this
    · by_cases y : nI v < lo
      · exact Or.inr (Or.inl y)
      · by_cases y2 : hi < nI v
        · exact Or.inr (Or.inr y2)
        · exact absurd (mIn_i.mpr ⟨y, y2⟩) z3
    · rw [es] at z2
      rw [if_pos (hl.mp z), if_neg (fun y => z2 (nI_lt (b := 5) y (by decide)))] at hn
      rw [hc.1, nI_1]
      exact lp_nH hT hq he hr hr2 h k (p + 1) v _ (by omega) (by omega) (by have := (hl.mp z).1; omega) hn (hf.uf (by simp)) ⟨am_u_at, by rw [am_u_nk (by decide)]; exact hc.2⟩
    · rw [es] at z2
      have hlt : p - q < 5 := Classical.byContradiction fun y => absurd z2 (nI_nlt (b := 5) (by omega) (by omega))
      have hdd := of_decide_eq_true (hl.mp z).2
      have hpt := (hl.mp z).1
      obtain ⟨b1, b2⟩ := hT'.2.2 p hpt
      rw [if_pos (hl.mp z), if_pos hlt] at hn
      have ev : ((10 * nI v) + I' 187 (I' 186 14).toNatClampNeg) - 48 = nI (v * 10 + (B p - 48)) := by
        rw [hc.1, nI_clamp (by omega), b1, (sB_1 _ b2).1 (by omega), show (10 : Int32) = nI 10 from rfl, show (48 : Int32) = nI 48 from rfl, pk_mul, nI_add, pk_sub (by omega)]
        congr 1; omega
      rw [ev, hc.1, nI_1]
      exact lp_nH hT hq he hr hr2 h k (p + 1) _ _ (by omega) (by omega) (by omega) hn (hf.uf (by simp)) ⟨am_u_at, by rw [am_u_nk (by decide)]; exact hc.2⟩
/-- a number is read: when it is wrong, the fault is known -/
theorem sp_numberHere {I : am_I} {L : am_L} {B : Nat → Nat} {t p : Nat} {lo hi : Int32} (hT : tpM I B t) (hp : p ≤ t) (hc : mcu I p 0)
    (h1 : (nm B t p lo hi (-1)).1 = 0 → ∀ I', frF [14, 15, 16] I I' → mcu I' (nm B t p lo hi (-1)).2.1 0 → I' 186 16 = nI (nm B t p lo hi (-1)).2.2 → Q (some (.int 1)) I' L (gg Lx ρ))
    (h0 : (nm B t p lo hi (-1)).1 ≠ 0 → ∀ I', frF [14, 15, 16] I I' → I' 186 15 = nI (nm B t p lo hi (-1)).1 → Q (some (.int 0)) I' L (gg Lx ρ)) : am_run (d + 2) m_Model_numberHere [.ref 186, .int lo, .int hi] I L (gg Lx ρ) Q := by
  have hs := sk_le (B := B) hp
  have h400 := hT.2.1
  refine run_in rfl rfl ⟨rfl, rfl⟩ (sy_Model_numberHere_0 _ _ ?_)
  refine sp_see hT hp hc (fun I1 f1 c1 => ?_)
  have hT1 := tpM_fr f1 (by simp) (by simp) hT
  have hl := mDig_n (p := sk B t p) hT1 (by omega)
  rw [← c1.1] at hl
  have hin : I1 186 14 < I1 186 1 → vp_in (I1 186 14) 400 := fun z => by
    rw [c1.1, hT1.1] at z
    rw [c1.1]
    exact vp_in_nI (by have : sk B t p < t := Classical.byContradiction fun y => absurd z (nI_nlt (by omega) (by omega))
                       omega) (by decide)
  unfold nm at h1 h0
  refine sy_Model_numberHere_4 _ _ _ _ _ hin (fun z => ?_) (fun z => ?_)
  · have hd := hl.mp z
    rw [if_pos hd] at h1 h0
    dsimp only at h1 h0
    obtain ⟨a, b, c⟩ := nmL_p (q := sk B t p) (fun i hi => (hT.2.2 i hi).2) 401 (sk B t p) 0 (Nat.le_refl _) hs.2 (by rw [Nat.sub_self, Nat.min_eq_left (by omega)]; decide)
    have hun : ¬ nI (nmL B t (sk B t p) 401 (sk B t p) 0).2 = -1 := nI_nm1 (by omega)
    rw [c1.1]
    refine lp_nH hT1 hs.2 (by decide) b c (fun I' f' c' e' => ?_) 401 (sk B t p) 0 I1 (by omega) (Nat.le_refl _) hs.2 rfl frm.rf c1
    have f'' : frF [14, 15, 16] I I' := (f1.w (by simp) (by simp)).tr f'
    by_cases y : 5 < (nmL B t (sk B t p) 401 (sk B t p) 0).1 - sk B t p ∨ nI (nmL B t (sk B t p) 401 (sk B t p) 0).2 < lo ∨ hi < nI (nmL B t (sk B t p) 401 (sk B t p) 0).2
    · have y2 : 5 < (nmL B t (sk B t p) 401 (sk B t p) 0).1 - sk B t p ∨ nI (nmL B t (sk B t p) 401 (sk B t p) 0).2 < lo ∨ hi < nI (nmL B t (sk B t p) 401 (sk B t p) 0).2 ∨ nI (nmL B t (sk B t p) 401 (sk B t p) 0).2 = -1 := by
        rcases y with y | y | y
        · exact Or.inl y
        · exact Or.inr (Or.inl y)
        · exact Or.inr (Or.inr (Or.inl y))
      rw [if_pos y] at c'
      rw [if_pos y2] at h0
      rw [bI_f (fun q => q y)]
      exact h0 (by omega) I' f'' c'.2
    · have y2 : ¬ (5 < (nmL B t (sk B t p) 401 (sk B t p) 0).1 - sk B t p ∨ nI (nmL B t (sk B t p) 401 (sk B t p) 0).2 < lo ∨ hi < nI (nmL B t (sk B t p) 401 (sk B t p) 0).2 ∨ nI (nmL B t (sk B t p) 401 (sk B t p) 0).2 = -1) := by
        intro q
        rcases q with q | q | q | q
        · exact y (Or.inl q)
        · exact y (Or.inr (Or.inl q))
        · exact y (Or.inr (Or.inr q))
        · exact hun q
      rw [if_neg y] at c'
      rw [if_neg y2] at h1
      rw [bI_t y]
      exact h1 rfl I' f'' c' e'
  · have hd : ¬ (sk B t p < t ∧ isD B (sk B t p) = true) := fun y => z (hl.mpr y)
    rw [if_neg hd] at h0
    rw [c1.1]
    obtain ⟨f2, c2⟩ := mFail_n (q := sk B t p) (w := 0) (by decide) c1
    exact h0 (show 1 + 8 * sk B t p ≠ 0 by omega) _ ((f1.w (by simp) (by simp)).tr (f2.w (by simp) (by simp))) c2.2
end TAM
