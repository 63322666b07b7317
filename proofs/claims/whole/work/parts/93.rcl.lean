/-! ===== rule: the class's codes and values ===== -/
def ap (Cs : Nat → List Nat) (s : Nat) (l : List Nat) : Nat → List Nat := fun k => if k = s then Cs k ++ l else Cs k
theorem ap_s {Cs : Nat → List Nat} {s : Nat} {l : List Nat} : ap Cs s l s = Cs s ++ l := if_pos rfl
theorem ap_n {Cs : Nat → List Nat} {s k : Nat} {l : List Nat} (h : k ≠ s) : ap Cs s l k = Cs k := if_neg h
theorem ap_ap {Cs : Nat → List Nat} {s : Nat} {l l' : List Nat} : ap (ap Cs s l) s l' = ap Cs s (l ++ l') := by
  funext k
  by_cases z : k = s
  · subst z; rw [ap_s, ap_s, ap_s, List.append_assoc]
  · rw [ap_n z, ap_n z, ap_n z]
theorem ap_0 {Cs : Nat → List Nat} {s : Nat} : ap Cs s [] = Cs := by
  funext k
  by_cases z : k = s
  · subst z; rw [ap_s, List.append_nil]
  · rw [ap_n z]
def pcR (I : am_I) (p v s : Nat) (Cs : Nat → List Nat) : Prop := cur I p 0 ∧ I 16 3 = nI s ∧ s ≤ 1 ∧ I 16 4 = nI v ∧ ∀ k, k < 2 → I 20 k = nI (Cs k).length ∧ (Cs k).length ≤ 400 ∧ segAt (I (18 + k)) 0 (Cs k)
def bdR (I : am_I) (t e : Nat) : Prop := (∃ p, p ≤ t ∧ cur I p e) ∧ (∃ s, s ≤ 1 ∧ I 16 3 = nI s) ∧ ∀ k, k < 2 → ∃ z, z ≤ 400 ∧ I 20 k = nI z
def frG (I I' : am_I) : Prop := (∀ a, a ≠ 13 → a ≠ 16 → a ≠ 18 → a ≠ 19 → a ≠ 20 → I' a = I a) ∧ I' 13 1 = I 13 1
theorem frG.rf {I : am_I} : frG I I := ⟨fun _ _ _ _ _ _ => rfl, rfl⟩
theorem frG.tr {I I' I2 : am_I} (h : frG I I') (g : frG I' I2) : frG I I2 := ⟨fun a z1 z2 z3 z4 z5 => (g.1 a z1 z2 z3 z4 z5).trans (h.1 a z1 z2 z3 z4 z5), g.2.trans h.2⟩
theorem frG.T {I I' : am_I} {B : Nat → Nat} {t : Nat} (h : frG I I') (hT : tpC I B t) : tpC I' B t := ⟨h.2.trans hT.1, hT.2.1, by rw [h.1 14 (by decide) (by decide) (by decide) (by decide) (by decide)]; exact hT.2.2⟩
theorem frG.o3 {I I' : am_I} (h : fr13 I I') : frG I I' := ⟨fun a z _ _ _ _ => h.1 a z, h.2 1 (by decide) (by decide)⟩
theorem frG.u {I : am_I} {a k : Nat} {v : Int32} (h : a = 16 ∨ a = 18 ∨ a = 19 ∨ a = 20) : frG I (am_u I a k v) := ⟨fun b z1 z2 z3 z4 z5 => am_u_ne (by omega), by rw [am_u_ne (by omega)]⟩
theorem pcR_13 {I I' : am_I} {p q v s : Nat} {Cs : Nat → List Nat} (h : fr13 I I') (hc : cur I' q 0) (hs : pcR I p v s Cs) : pcR I' q v s Cs := by
  refine ⟨hc, by rw [h.1 16 (by decide)]; exact hs.2.1, hs.2.2.1, by rw [h.1 16 (by decide)]; exact hs.2.2.2.1, fun k hk => ?_⟩
  rw [h.1 20 (by decide), h.1 (18 + k) (by omega)]; exact hs.2.2.2.2 k hk
theorem bdR_13 {I I' : am_I} {t q e e' : Nat} (h : fr13 I I') (hq : q ≤ t) (hc : cur I' q e') (hs : bdR I t e) : bdR I' t e' :=
  ⟨⟨q, hq, hc⟩, by rw [h.1 16 (by decide)]; exact hs.2.1, by rw [h.1 20 (by decide)]; exact hs.2.2⟩
theorem pcR_bd {I : am_I} {t p v s : Nat} {Cs : Nat → List Nat} (hp : p ≤ t) (hs : pcR I p v s Cs) : bdR I t 0 := ⟨⟨p, hp, hs.1⟩, ⟨s, hs.2.2.1, hs.2.1⟩, fun k hk => ⟨_, (hs.2.2.2.2 k hk).2.1, (hs.2.2.2.2 k hk).1⟩⟩
theorem bdR_o {I : am_I} {t e : Nat} (h : bdR I t e) : vp_in (I 16 3) 2 ∧ vp_in (I 20 (I 16 3).toNatClampNeg) 401 := by
  obtain ⟨_, ⟨s, hs, e1⟩, h3⟩ := h
  obtain ⟨z, hz, e2⟩ := h3 s (by omega)
  rw [e1]
  refine ⟨vp_in_nI (by omega) (by decide), ?_⟩
  rw [nI_clamp (by omega), e2]
  exact vp_in_nI (by omega) (by decide)
theorem segAt_sn {F : Nat → Int32} {l : List Nat} {x : Nat} {w : Int32} (h : segAt F 0 l) (hw : w = nI x) : segAt (fun i => if i = l.length then w else F i) 0 (l ++ [x]) := by
  rw [segAt_app]
  refine ⟨segAt_congr (fun i _ h2 => if_neg (by omega)) h, ?_, trivial⟩
  show (if 0 + l.length = l.length then w else _) = _
  rw [if_pos (by omega)]; exact hw
theorem wrt_ok {I : am_I} {p v s x : Nat} {Cs : Nat → List Nat} (h : pcR I p v s Cs) (hl : (Cs s).length < 400) : pcR (cWrt I (nI x)) p v s (ap Cs s [x]) ∧ frG I (cWrt I (nI x)) := by
  obtain ⟨h1, h2, h3, h4, h5⟩ := h
  obtain ⟨a1, a2, a3⟩ := h5 s (by omega)
  have e : cWrt I (nI x) = am_u (am_u I (18 + s) (Cs s).length (nI x)) 20 s (nI ((Cs s).length + 1)) := by
    unfold cWrt
    have lt4 : nI (Cs s).length < 400 := nI_lt (b := 400) hl (by decide)
    rw [h2, nI_clamp (by omega), a1, if_pos lt4, nI_clamp (by omega), nI_1]
  rw [e]
  refine ⟨⟨⟨?_, ?_⟩, ?_, h3, ?_, fun k hk => ?_⟩, (frG.u (by omega)).tr (frG.u (by omega))⟩
  · rw [am_u_ne (by decide), am_u_ne (by omega)]; exact h1.1
  · rw [am_u_ne (by decide), am_u_ne (by omega)]; exact h1.2
  · rw [am_u_ne (by decide), am_u_ne (by omega)]; exact h2
  · rw [am_u_ne (by decide), am_u_ne (by omega)]; exact h4
  · by_cases z : k = s
    · subst z
      rw [ap_s, am_u_at, am_u_ne (show 18 + k ≠ 20 by omega)]
      refine ⟨by simp, by simp; omega, ?_⟩
      have := segAt_sn (x := x) a3 rfl
      exact segAt_congr (fun i _ _ => by
        by_cases y : i = (Cs k).length
        · subst y; rw [am_u_at, if_pos rfl]
        · rw [am_u_nk y, if_neg y]) this
    · rw [ap_n z, am_u_nk z, am_u_ne (show (20 : Nat) ≠ 18 + s by omega), am_u_ne (show 18 + k ≠ 20 by omega), am_u_ne (show 18 + k ≠ 18 + s by omega)]
      exact h5 k hk
theorem wrt_bd {I : am_I} {t e : Nat} {x : Int32} (h : bdR I t e) : bdR (cWrt I x) t e ∧ frG I (cWrt I x) := by
  obtain ⟨⟨p, hp, h1⟩, ⟨s, h3, h2⟩, h5⟩ := id h
  obtain ⟨z, hz, a1⟩ := h5 s (by omega)
  unfold cWrt
  by_cases y : I 20 (I 16 3).toNatClampNeg < 400
  · rw [if_pos y]
    rw [h2, nI_clamp (by omega), a1] at y ⊢
    have zl : z < 400 := Decidable.byContradiction fun k => nI_nlt (b := 400) (by omega) (by omega) y
    rw [nI_clamp (by omega), nI_1]
    refine ⟨⟨⟨p, hp, ?_, ?_⟩, ⟨s, h3, ?_⟩, fun k hk => ?_⟩, (frG.u (by omega)).tr (frG.u (by omega))⟩
    · rw [am_u_ne (by decide), am_u_ne (by omega)]; exact h1.1
    · rw [am_u_ne (by decide), am_u_ne (by omega)]; exact h1.2
    · rw [am_u_ne (by decide), am_u_ne (by omega)]; exact h2
    · by_cases w : k = s
      · subst w; exact ⟨z + 1, by omega, am_u_at⟩
      · obtain ⟨z2, b1, b2⟩ := h5 k hk
        exact ⟨z2, b1, by rw [am_u_nk w, am_u_ne (show (20 : Nat) ≠ 18 + s by omega)]; exact b2⟩
  · rw [if_neg y]; exact ⟨h, frG.rf⟩
theorem cnt_ok {I : am_I} {p v s : Nat} {q : Int32} {Cs : Nat → List Nat} (h : pcR I p v s Cs) (hv : v < 60) : pcR (cCnt I q) p (v + 1) s Cs ∧ frG I (cCnt I q) := by
  obtain ⟨⟨h0, h1⟩, h2, h3, h4, h5⟩ := h
  have e : cCnt I q = am_u I 16 4 (nI (v + 1)) := by
    unfold cCnt
    have n6 : ¬ (60 : Int32) < nI (v + 1) := nI_nlt (a := 60) (b := v + 1) (by omega) (by decide)
    rw [h4, nI_1, if_neg n6]
  rw [e]
  refine ⟨⟨⟨by rw [am_u_ne (by decide)]; exact h0, by rw [am_u_ne (by decide)]; exact h1⟩, by rw [am_u_nk (by decide)]; exact h2, h3, am_u_at, fun k hk => ?_⟩, frG.u (by omega)⟩
  rw [am_u_ne (by decide), am_u_ne (by omega)]; exact h5 k hk
theorem bdR_f {I : am_I} {t e q w : Nat} (h : bdR I t e) (he : e < 2 ^ 31) : bdR (cFail I (nI q) (nI w)) t (ff e (1 + 8 * q + w)) ∧ frG I (cFail I (nI q) (nI w)) := by
  obtain ⟨⟨p, hp, h1⟩, h2⟩ := id h
  have g := cFail_n (q := q) (w := w) he h1
  exact ⟨bdR_13 g.1 hp g.2 h, frG.o3 g.1⟩
theorem bdR_16 {I : am_I} {t e : Nat} {v : Int32} (h : bdR I t e) : bdR (am_u I 16 4 v) t e := by
  obtain ⟨⟨p, hp, h1⟩, ⟨s, h3, h2⟩, h5⟩ := h
  refine ⟨⟨p, hp, by rw [am_u_ne (by decide)]; exact h1.1, by rw [am_u_ne (by decide)]; exact h1.2⟩, ⟨s, h3, by rw [am_u_nk (by decide)]; exact h2⟩, by rw [am_u_ne (by decide)]; exact h5⟩
theorem cnt_bd {I : am_I} {t e q : Nat} (h : bdR I t e) (he : e < 2 ^ 31) (h0 : ¬ e = 0) : bdR (cCnt I (nI q)) t e ∧ frG I (cCnt I (nI q)) := by
  unfold cCnt
  split
  · have := bdR_f (q := q) (w := 3) (bdR_16 (v := I 16 4 + 1) h) he
    have e : ff e (1 + 8 * q + 3) = e := if_neg h0
    rw [e] at this
    exact ⟨this.1, (frG.u (by omega)).tr this.2⟩
  · exact ⟨bdR_16 h, frG.u (by omega)⟩
theorem cnt_full {I : am_I} {t p v s q : Nat} {Cs : Nat → List Nat} (hp : p ≤ t) (h : pcR I p v s Cs) (hv : ¬ v < 60) (hv2 : v ≤ 60) : bdR (cCnt I (nI q)) t (1 + 8 * q + 3) ∧ frG I (cCnt I (nI q)) := by
  have hv3 : v = 60 := by omega
  subst hv3
  unfold cCnt
  rw [h.2.2.2.1, if_pos (by decide)]
  have := bdR_f (q := q) (w := 3) (bdR_16 (v := nI 60 + 1) (pcR_bd hp h)) (by decide)
  exact ⟨this.1, (frG.u (by omega)).tr this.2⟩
section RCL
variable {d Lx : Nat} {ρ : List (Nat × Nat)} {Q : am_Q}
def rowOk : Nat → List (List Nat) → Prop
  | r, [] => r = 41
  | r, w :: ws => (∀ c, c < w.length → (am_strs 9).getD (r + c) 0 = nI (w.getD c 0) ∧ 97 ≤ w.getD c 0 ∧ w.getD c 0 ≤ 122) ∧ (am_strs 9).getD (r + w.length) 0 = 32 ∧ r + w.length < 41 ∧ rowOk (r + w.length + 1) ws
theorem row_l : (am_strs 9).length = 41 := by decide
theorem lp_po {C : am_C} {I : am_I} {L : am_L} {B : Nat → Nat} {t q e j r : Nat} {w : List Nat} {ws : List (List Nat)} (hT : tpC I B t) (hq : q ≤ t) (hc : cur I q e) (hr : rowOk r (w :: ws))
    (h1 : isW B t q w = true → Q (some (.int (nI j))) (am_u I 13 2 (nI (q + w.length))) L (gg Lx ρ))
    (h0 : ¬ isW B t q w = true → ∀ x6, am_W am_all C e_Tape_passOneOf Q 18 [.ref 13, .ref 9, .int (nI (j + 1)), .int (nI q), .int 1, .int (nI (r + w.length + 1)), x6] [] I L (gg Lx ρ) 0 0) :
    ∀ m c x6, c + m = w.length → am_W am_all C e_Tape_passOneOf Q 18 [.ref 13, .ref 9, .int (nI j), .int (nI (q + c)), .int (bI (∀ i, i < c → q + i < t ∧ B (q + i) = w.getD i 0)), .int (nI (r + c)), x6] [] I L (gg Lx ρ) 0 0 := by
  obtain ⟨r1, r2, r3, _⟩ := hr
  obtain ⟨t1, t2, t3⟩ := hT
  have hl : (nI (am_strs 9).length) = nI 41 := by rw [row_l]
  intro m
  induction m with
  | zero =>
    intro c x6 hm
    have hm : c = w.length := by omega
    subst hm
    have hcl : (nI (r + w.length)).toNatClampNeg = r + w.length := nI_clamp (by omega)
    have hx5 : nI (r + w.length) < nI (am_strs 9).length := by rw [hl]; exact nI_lt r3 (by decide)
    have hv5 : vp_in (nI (r + w.length)) (am_strs 9).length := by rw [row_l]; exact vp_in_nI r3 (by decide)
    have h32 : (am_strs 9).getD (nI (r + w.length)).toNatClampNeg 0 = 32 := by rw [hcl]; exact r2
    by_cases y : q + w.length < t
    · have hy : nI (q + w.length) < I 13 1 := by rw [t1]; exact nI_lt y (by omega)
      have hy4 : nI (q + w.length) < 400 := nI_lt (b := 400) (by omega) (by decide)
      have eb : I 14 (nI (q + w.length)).toNatClampNeg = nI (B (q + w.length)) := by rw [nI_clamp (by omega)]; exact (t3 _ y).1
      have hB := (t3 _ y).2
      by_cases s : ∀ i, i < w.length → q + i < t ∧ B (q + i) = w.getD i 0
      · rw [bI_t s]
        by_cases l : 97 ≤ B (q + w.length) ∧ B (q + w.length) ≤ 122
        · have hW : ¬ isW B t q w = true := fun k => (of_decide_eq_true k).2 ⟨y, decide_eq_true l⟩
          refine sz_Tape_passOneOf_18 _ _ _ _ _ _ (by decide) (fun z => absurd hx5 z) (fun _ z => absurd hy z) (fun _ z => absurd hy z) (fun _ z => absurd hy z) (fun _ z => absurd hy z) (fun _ z => absurd hy z) (fun _ z => absurd hy z) (fun _ _ z => absurd hy4 z) (fun _ _ z => absurd hy4 z) (fun _ _ z => absurd hy4 z) (fun _ _ z => absurd hy4 z) (fun _ _ z => absurd hy4 z) (fun _ _ z => absurd hy4 z) (fun _ _ _ => vp_in_nI (by omega) (by decide)) (fun _ _ _ => hv5) (fun _ _ _ _ z => absurd z (by decide)) (fun _ _ _ _ _ z => ?_) (fun _ _ _ _ _ _ _ => ?_) (fun _ _ _ _ _ _ z => ?_) (fun _ _ _ z => absurd h32 z) (fun _ _ _ z => absurd h32 z) (fun _ _ _ z => absurd h32 z)
          · rw [eb] at z; exact absurd z (nI_nlt (b := 97) l.1 (by omega))
          · rw [hc.1, nI_1, nI_1]; exact h0 hW _
          · rw [eb] at z; exact absurd z (nI_nlt (a := 122) l.2 (by omega))
        · have hW : isW B t q w = true := decide_eq_true ⟨s, fun k => l (of_decide_eq_true k.2)⟩
          refine sz_Tape_passOneOf_18 _ _ _ _ _ _ (by decide) (fun z => absurd hx5 z) (fun _ z => absurd hy z) (fun _ z => absurd hy z) (fun _ z => absurd hy z) (fun _ z => absurd hy z) (fun _ z => absurd hy z) (fun _ z => absurd hy z) (fun _ _ z => absurd hy4 z) (fun _ _ z => absurd hy4 z) (fun _ _ z => absurd hy4 z) (fun _ _ z => absurd hy4 z) (fun _ _ z => absurd hy4 z) (fun _ _ z => absurd hy4 z) (fun _ _ _ => vp_in_nI (by omega) (by decide)) (fun _ _ _ => hv5) (fun _ _ _ _ z => absurd z (by decide)) (fun _ _ _ _ _ z => h1 hW) (fun _ _ _ _ _ z1 z2 => ?_) (fun _ _ _ _ _ _ z => h1 hW) (fun _ _ _ z => absurd h32 z) (fun _ _ _ z => absurd h32 z) (fun _ _ _ z => absurd h32 z)
          rw [eb] at z1 z2
          refine absurd ⟨?_, ?_⟩ l
          · exact Decidable.byContradiction fun k => z1 (nI_lt (b := 97) (by omega) (by decide))
          · exact Decidable.byContradiction fun k => z2 (nI_lt (a := 122) (by omega) (by omega))
      · rw [bI_f s]
        have hW : ¬ isW B t q w = true := fun k => s (of_decide_eq_true k).1
        refine sz_Tape_passOneOf_18 _ _ _ _ _ _ (by decide) (fun z => absurd hx5 z) (fun _ z => absurd hy z) (fun _ z => absurd hy z) (fun _ z => absurd hy z) (fun _ z => absurd hy z) (fun _ z => absurd hy z) (fun _ z => absurd hy z) (fun _ _ z => absurd hy4 z) (fun _ _ z => absurd hy4 z) (fun _ _ z => absurd hy4 z) (fun _ _ z => absurd hy4 z) (fun _ _ z => absurd hy4 z) (fun _ _ z => absurd hy4 z) (fun _ _ _ => vp_in_nI (by omega) (by decide)) (fun _ _ _ => hv5) (fun _ _ _ _ _ => ?_) (fun _ _ _ _ z => absurd rfl z) (fun _ _ _ _ z => absurd rfl z) (fun _ _ _ _ z => absurd rfl z) (fun _ _ _ z => absurd h32 z) (fun _ _ _ z => absurd h32 z) (fun _ _ _ z => absurd h32 z)
        rw [hc.1, nI_1, nI_1]; exact h0 hW _
    · have hy : ¬ nI (q + w.length) < I 13 1 := by rw [t1]; exact nI_nlt (by omega) (by omega)
      by_cases s : ∀ i, i < w.length → q + i < t ∧ B (q + i) = w.getD i 0
      · rw [bI_t s]
        have hW : isW B t q w = true := decide_eq_true ⟨s, fun k => y k.1⟩
        exact sz_Tape_passOneOf_18 _ _ _ _ _ _ (by decide) (fun z => absurd hx5 z) (fun _ _ => hv5) (fun _ _ _ z => absurd z (by decide)) (fun _ _ _ _ => h1 hW) (fun _ _ z => absurd h32 z) (fun _ _ z => absurd h32 z) (fun _ _ z => absurd h32 z) (fun _ z => absurd z hy) (fun _ z => absurd z hy) (fun _ z => absurd z hy) (fun _ z => absurd z hy) (fun _ z => absurd z hy) (fun _ z => absurd z hy) (fun _ z => absurd z hy) (fun _ z => absurd z hy) (fun _ z => absurd z hy) (fun _ z => absurd z hy) (fun _ z => absurd z hy) (fun _ z => absurd z hy) (fun _ z => absurd z hy) (fun _ z => absurd z hy) (fun _ z => absurd z hy)
      · rw [bI_f s]
        have hW : ¬ isW B t q w = true := fun k => s (of_decide_eq_true k).1
        refine sz_Tape_passOneOf_18 _ _ _ _ _ _ (by decide) (fun z => absurd hx5 z) (fun _ _ => hv5) (fun _ _ _ _ => ?_) (fun _ _ _ z => absurd rfl z) (fun _ _ z => absurd h32 z) (fun _ _ z => absurd h32 z) (fun _ _ z => absurd h32 z) (fun _ z => absurd z hy) (fun _ z => absurd z hy) (fun _ z => absurd z hy) (fun _ z => absurd z hy) (fun _ z => absurd z hy) (fun _ z => absurd z hy) (fun _ z => absurd z hy) (fun _ z => absurd z hy) (fun _ z => absurd z hy) (fun _ z => absurd z hy) (fun _ z => absurd z hy) (fun _ z => absurd z hy) (fun _ z => absurd z hy) (fun _ z => absurd z hy) (fun _ z => absurd z hy)
        rw [hc.1, nI_1, nI_1]; exact h0 hW _
  | succ m ih =>
    intro c x6 hm
    obtain ⟨k1, k2, k3⟩ := r1 c (by omega)
    have hcl : (nI (r + c)).toNatClampNeg = r + c := nI_clamp (by omega)
    have hx5 : nI (r + c) < nI (am_strs 9).length := by rw [hl]; exact nI_lt (by omega) (by decide)
    have hv5 : vp_in (nI (r + c)) (am_strs 9).length := by rw [row_l]; exact vp_in_nI (by omega) (by decide)
    have hch : (am_strs 9).getD (nI (r + c)).toNatClampNeg 0 = nI (w.getD c 0) := by rw [hcl]; exact k1
    have h32 : ¬ (am_strs 9).getD (nI (r + c)).toNatClampNeg 0 = 32 := by rw [hch]; exact fun z => absurd ((nI_eq (b := 32) (by omega) (by decide)).mp z) (by omega)
    have next : ∀ (b : Int32) (x6 : Value), b = bI (∀ i, i < c + 1 → q + i < t ∧ B (q + i) = w.getD i 0) → am_W am_all C e_Tape_passOneOf Q 18 [.ref 13, .ref 9, .int (nI j), .int (nI (q + c) + 1), .int b, .int (nI (r + c) + 1), x6] [] I L (gg Lx ρ) 0 0 := by
      intro b x6 hb
      rw [hb, nI_1, nI_1]
      exact ih (c + 1) x6 (by omega)
    have bf : ¬ (∀ i, i < c → q + i < t ∧ B (q + i) = w.getD i 0) → (0 : Int32) = bI (∀ i, i < c + 1 → q + i < t ∧ B (q + i) = w.getD i 0) := fun z => (bI_f (fun k => z (fun i hi => k i (by omega)))).symm
    have bf2 : ¬ (q + c < t ∧ B (q + c) = w.getD c 0) → (0 : Int32) = bI (∀ i, i < c + 1 → q + i < t ∧ B (q + i) = w.getD i 0) := fun z => (bI_f (fun k => z (k c (by omega)))).symm
    by_cases y : q + c < t
    · have hy : nI (q + c) < I 13 1 := by rw [t1]; exact nI_lt y (by omega)
      have hy4 : nI (q + c) < 400 := nI_lt (b := 400) (by omega) (by decide)
      have eb : I 14 (nI (q + c)).toNatClampNeg = nI (B (q + c)) := by rw [nI_clamp (by omega)]; exact (t3 _ y).1
      have hB := (t3 _ y).2
      by_cases s : ∀ i, i < c → q + i < t ∧ B (q + i) = w.getD i 0
      · rw [bI_t s]
        refine sz_Tape_passOneOf_18 _ _ _ _ _ _ (by decide) (fun z => absurd hx5 z) (fun _ z => absurd hy z) (fun _ z => absurd hy z) (fun _ z => absurd hy z) (fun _ z => absurd hy z) (fun _ z => absurd hy z) (fun _ z => absurd hy z) (fun _ _ z => absurd hy4 z) (fun _ _ z => absurd hy4 z) (fun _ _ z => absurd hy4 z) (fun _ _ z => absurd hy4 z) (fun _ _ z => absurd hy4 z) (fun _ _ z => absurd hy4 z) (fun _ _ _ => vp_in_nI (by omega) (by decide)) (fun _ _ _ => hv5) (fun _ _ _ z => absurd z h32) (fun _ _ _ z => absurd z h32) (fun _ _ _ z => absurd z h32) (fun _ _ _ z => absurd z h32) (fun _ _ _ _ z => absurd z (by decide)) (fun _ _ _ _ _ z => next _ _ ?_) (fun _ _ _ _ _ z => next _ _ ?_)
        · rw [eb, hch] at z
          exact bf2 (fun k => z (by rw [k.2]))
        · rw [eb, hch] at z
          have e := (nI_eq (by omega) (by omega)).mp z
          exact (bI_t (fun i hi => by
            by_cases k : i = c
            · subst k; exact ⟨y, e⟩
            · exact s i (by omega))).symm
      · rw [bI_f s]
        exact sz_Tape_passOneOf_18 _ _ _ _ _ _ (by decide) (fun z => absurd hx5 z) (fun _ z => absurd hy z) (fun _ z => absurd hy z) (fun _ z => absurd hy z) (fun _ z => absurd hy z) (fun _ z => absurd hy z) (fun _ z => absurd hy z) (fun _ _ z => absurd hy4 z) (fun _ _ z => absurd hy4 z) (fun _ _ z => absurd hy4 z) (fun _ _ z => absurd hy4 z) (fun _ _ z => absurd hy4 z) (fun _ _ z => absurd hy4 z) (fun _ _ _ => vp_in_nI (by omega) (by decide)) (fun _ _ _ => hv5) (fun _ _ _ z => absurd z h32) (fun _ _ _ z => absurd z h32) (fun _ _ _ z => absurd z h32) (fun _ _ _ z => absurd z h32) (fun _ _ _ _ _ => next _ _ (bf s)) (fun _ _ _ _ z => absurd rfl z) (fun _ _ _ _ z => absurd rfl z)
    · have hy : ¬ nI (q + c) < I 13 1 := by rw [t1]; exact nI_nlt (by omega) (by omega)
      by_cases s : ∀ i, i < c → q + i < t ∧ B (q + i) = w.getD i 0
      · rw [bI_t s]
        exact sz_Tape_passOneOf_18 _ _ _ _ _ _ (by decide) (fun z => absurd hx5 z) (fun _ _ => hv5) (fun _ _ z => absurd z h32) (fun _ _ z => absurd z h32) (fun _ _ _ z => absurd z (by decide)) (fun _ _ _ _ _ => next _ _ (bf2 (fun k => y k.1))) (fun _ _ _ _ z => absurd (z.trans hch).symm (nI_nm1 (by omega))) (fun _ z => absurd z hy) (fun _ z => absurd z hy) (fun _ z => absurd z hy) (fun _ z => absurd z hy) (fun _ z => absurd z hy) (fun _ z => absurd z hy) (fun _ z => absurd z hy) (fun _ z => absurd z hy) (fun _ z => absurd z hy) (fun _ z => absurd z hy) (fun _ z => absurd z hy) (fun _ z => absurd z hy) (fun _ z => absurd z hy) (fun _ z => absurd z hy) (fun _ z => absurd z hy)
      · rw [bI_f s]
        exact sz_Tape_passOneOf_18 _ _ _ _ _ _ (by decide) (fun z => absurd hx5 z) (fun _ _ => hv5) (fun _ _ z => absurd z h32) (fun _ _ z => absurd z h32) (fun _ _ _ _ => next _ _ (bf s)) (fun _ _ _ z => absurd rfl z) (fun _ _ _ z => absurd rfl z) (fun _ z => absurd z hy) (fun _ z => absurd z hy) (fun _ z => absurd z hy) (fun _ z => absurd z hy) (fun _ z => absurd z hy) (fun _ z => absurd z hy) (fun _ z => absurd z hy) (fun _ z => absurd z hy) (fun _ z => absurd z hy) (fun _ z => absurd z hy) (fun _ z => absurd z hy) (fun _ z => absurd z hy) (fun _ z => absurd z hy) (fun _ z => absurd z hy) (fun _ z => absurd z hy)
end RCL
