/-! ===== rule: the reference's stack ===== -/
def dep : List Nat → Nat
  | [] => 0
  | x :: s => (if x = 11 ∨ x = 91 then 1 else 0) + dep s
def stg (x : Nat) : Nat := if x = 13 then 1 else if x = 12 then 2 else if x = 11 then 3 else 0
theorem stg_le (x : Nat) : stg x ≤ 3 := by
  unfold stg
  split
  · decide
  · split
    · decide
    · split
      · decide
      · decide
def setl (k : Nat) : List Nat → List Nat → List Nat × List Nat
  | [], T => ([], T)
  | x :: st, T => if stg x < k then (x :: st, T) else setl k st (T ++ [x])
def skR (I : am_I) (st : List Nat) : Prop := I 186 22 = nI st.length ∧ segAt (I 195) 0 st.reverse ∧ I 186 19 = nI (dep st)
def frZ (tx : Nat) (I I' : am_I) : Prop := frm [188, 189, 195] [14, 15, 16, 18, 19, 22] I I' ∧ ∀ i, i < 400 * tx → I' 188 i = I 188 i
theorem frZ.rf {tx : Nat} {I : am_I} : frZ tx I I := ⟨frm.rf, fun _ _ => rfl⟩
theorem frZ.tr {tx : Nat} {I I' I2 : am_I} (h : frZ tx I I') (g : frZ tx I' I2) : frZ tx I I2 := ⟨h.1.tr g.1, fun i hi => (g.2 i hi).trans (h.2 i hi)⟩
theorem frZ.T {tx : Nat} {I I' : am_I} {B : Nat → Nat} {t : Nat} (h : frZ tx I I') (hT : tpM I B t) : tpM I' B t := tpM_fr h.1 (by decide) (by decide) hT
theorem frZ.V {tx : Nat} {I I' : am_I} (h : frV tx I I') : frZ tx I I' := ⟨frm.w h.1 (by decide) (by decide), h.2⟩
theorem frZ.F {tx : Nat} {F : List Nat} {I I' : am_I} (h : frF F I I') (hF : ∀ k ∈ F, k ∈ [14, 15, 16, 18, 19, 22]) : frZ tx I I' := ⟨frm.w h (fun _ z => absurd z (List.not_mem_nil)) hF, fun i _ => by rw [h.1 188 (by decide) (List.not_mem_nil)]⟩
theorem frZ.u5 {tx : Nat} {I : am_I} {k : Nat} {v : Int32} : frZ tx I (am_u I 195 k v) := ⟨frm.rf.u (by decide) (by decide), fun i _ => by rw [am_u_ne (by decide)]⟩
theorem frZ.uf {tx : Nat} {I : am_I} {k : Nat} {v : Int32} (hk : k ∈ [14, 15, 16, 18, 19, 22]) : frZ tx I (am_u I 186 k v) := ⟨frm.rf.uf hk, fun i _ => by rw [am_u_ne (by decide)]⟩
theorem skR_V {tx : Nat} {I I' : am_I} {st : List Nat} (h : frV tx I I') (hs : skR I st) : skR I' st := ⟨by rw [h.1.2 22 (by decide)]; exact hs.1, by rw [h.1.1 195 (by decide) (by decide)]; exact hs.2.1, by rw [h.1.2 19 (by decide)]; exact hs.2.2⟩
theorem skR_F {F : List Nat} {I I' : am_I} {st : List Nat} (h : frF F I I') (hF : 19 ∉ F ∧ 22 ∉ F) (hs : skR I st) : skR I' st := ⟨by rw [h.2 22 hF.2]; exact hs.1, by rw [h.1 195 (by decide) (List.not_mem_nil)]; exact hs.2.1, by rw [h.2 19 hF.1]; exact hs.2.2⟩
theorem pmR_st {I I' : am_I} {p v tx : Nat} {T : List Nat} (h8 : I' 188 = I 188) (h9 : I' 189 = I 189) (hf : ∀ k, k ≠ 19 → k ≠ 22 → I' 186 k = I 186 k) (hs : pmR I p v tx T) : pmR I' p v tx T :=
  ⟨⟨by rw [hf 14 (by decide) (by decide)]; exact hs.1.1, by rw [hf 15 (by decide) (by decide)]; exact hs.1.2⟩, by rw [hf 17 (by decide) (by decide)]; exact hs.2.1, hs.2.2.1, by rw [hf 18 (by decide) (by decide)]; exact hs.2.2.2.1, by rw [h9]; exact hs.2.2.2.2.1, by rw [h8]; exact hs.2.2.2.2.2⟩
theorem segAt_r {F : Nat → Int32} {st : List Nat} {x : Nat} (h : segAt F 0 (x :: st).reverse) : segAt F 0 st.reverse ∧ F st.length = nI x := by
  rw [List.reverse_cons, segAt_app] at h
  refine ⟨h.1, ?_⟩
  have := h.2.1
  rw [Nat.zero_add, List.length_reverse] at this
  exact this
/-- onto the stack -/
theorem push_ok {I : am_I} {st : List Nat} {x : Nat} {D : Int32} (hs : skR I st) (hD : D = nI (dep (x :: st))) : skR (am_u (am_u (am_u I 186 19 D) 195 st.length (nI x)) 186 22 (nI (st.length + 1))) (x :: st) := by
  refine ⟨am_u_at, ?_, ?_⟩
  · rw [am_u_ne (by decide), List.reverse_cons, segAt_app]
    refine ⟨segAt_congr (fun i h1 h2 => ?_) hs.2.1, ?_, trivial⟩
    · rw [List.length_reverse] at h2
      rw [am_u_nk (by omega), am_u_ne (by decide)]
    · rw [Nat.zero_add, List.length_reverse, am_u_at]
  · rw [am_u_nk (by decide), am_u_ne (by decide), am_u_at]; exact hD
theorem push2_ok {I : am_I} {st : List Nat} {x : Nat} (hx : x = 12 ∨ x = 13) (hs : skR I st) : skR (am_u (am_u I 195 st.length (nI x)) 186 22 (nI (st.length + 1))) (x :: st) := by
  refine ⟨am_u_at, ?_, ?_⟩
  · rw [am_u_ne (by decide), List.reverse_cons, segAt_app]
    refine ⟨segAt_congr (fun i h1 h2 => ?_) hs.2.1, ?_, trivial⟩
    · rw [List.length_reverse] at h2
      rw [am_u_nk (by omega)]
    · rw [Nat.zero_add, List.length_reverse, am_u_at]
  · rw [am_u_nk (by decide), am_u_ne (by decide)]
    have : dep (x :: st) = dep st := by show (if x = 11 ∨ x = 91 then 1 else 0) + dep st = dep st; rw [if_neg (by omega)]; omega
    rw [this]; exact hs.2.2
section RMU
variable {d Lx : Nat} {ρ : List (Nat × Nat)} {Q : am_Q}
theorem mStr_n {x : Nat} (hx : x < 200) : mStr (nI x) = nI (stg x) := by
  have : ∀ x, x < 200 → mStr (nI x) = nI (stg x) := by decide +kernel
  exact this x hx
theorem lp_settles {L : am_L} {p v tx k : Nat} {I0 : am_I} (hk1 : 1 ≤ k) (hk : k < 10) (hpt : p ≤ 400) : ∀ (st T : List Nat) (I : am_I), (∀ x ∈ st, x < 200) → pmR I p v tx T → skR I st → T.length + st.length ≤ p → frZ tx I0 I →
    (∀ I', frZ tx I0 I' → pmR I' p v tx (setl k st T).2 → skR I' (setl k st T).1 → Q none I' L (gg Lx ρ)) → am_W am_all (am_run (d + 1)) e_Model_settles Q 0 [.ref 186, .int (nI k)] [] I L (gg Lx ρ) 0 0 := by
  intro st
  induction st with
  | nil =>
    intro T I hx hs hst hl g0 h
    have n0 : ¬ 0 < I 186 22 := by rw [hst.1]; decide
    exact sy_Model_settles_0 _ (fun _ => h I g0 hs hst) (fun z => absurd z n0) (fun z => absurd z n0) (fun z => absurd z n0) (fun z => absurd z n0) (fun z => absurd z n0) (fun z => absurd z n0) (fun z => absurd z n0)
  | cons x st ih =>
    intro T I hx hs hst hl g0 h
    have hx1 := hx x (by simp)
    have hlen : (x :: st).length = st.length + 1 := rfl
    have y0 : 0 < I 186 22 := by rw [hst.1]; exact nI_lt (a := 0) (by omega) (by omega)
    have e22 : I 186 22 - 1 = nI st.length := by rw [hst.1]; exact nI_pred st.length
    obtain ⟨r1, r2⟩ := segAt_r hst.2.1
    have etop : I 195 (nI st.length).toNatClampNeg = nI x := by rw [nI_clamp (by omega)]; exact r2
    have lt : mStr (nI x) < nI k ↔ stg x < k := by
      rw [mStr_n hx1]
      have : stg x ≤ 3 := stg_le x
      exact ⟨fun z => Decidable.byContradiction fun q => nI_nlt (by omega) (by omega) z, fun z => nI_lt z (by omega)⟩
    -- behind the put
    have s0 : pmR (am_u I 186 22 (nI st.length)) p v tx T := pmR_st (am_u_ne (by decide)) (am_u_ne (by decide)) (fun k _ z2 => am_u_nk z2) hs
    have hT4 : T.length < 400 := by omega
    have o := put_o s0 hT4
    have pw := put_ok (x := nI x) (y := 0) (tok := x) s0 hT4 (by show nI x + 0 = nI x; exact nI_add0 _)
    have q22 : mPut (am_u I 186 22 (nI st.length)) (nI x) 0 186 22 = nI st.length := by rw [pw.2.1.2 22 (by decide), am_u_at]
    have q195 : mPut (am_u I 186 22 (nI st.length)) (nI x) 0 195 = I 195 := by rw [pw.2.1.1 195 (by decide) (by decide), am_u_ne (by decide)]
    have q19 : mPut (am_u I 186 22 (nI st.length)) (nI x) 0 186 19 = nI (dep (x :: st)) := by rw [pw.2.1.2 19 (by decide), am_u_nk (by decide)]; exact hst.2.2
    have g1 : frZ tx I0 (mPut (am_u I 186 22 (nI st.length)) (nI x) 0) := (g0.tr (frZ.uf (by decide))).tr (frZ.V pw.2)
    have hl2 : (T ++ [x]).length + st.length ≤ p := by rw [List.length_append]; show T.length + 1 + st.length ≤ p; omega
    have es : ¬ stg x < k → setl k (x :: st) T = setl k st (T ++ [x]) := fun z => by rw [setl, if_neg z]
    refine sy_Model_settles_0 _ (fun z => absurd y0 z) (fun _ => ?_) (fun _ z => ?_) (fun _ z => ?_) (fun _ z => ?_) (fun _ z => ?_) (fun _ z y => ?_) (fun _ z y => ?_)
    · rw [e22]; exact vp_in_nI (by omega) (by decide)
    · rw [e22, etop] at z
      have e : setl k (x :: st) T = (x :: st, T) := by rw [setl, if_pos (lt.mp z)]
      rw [e] at h
      exact h I g0 hs hst
    · have := o.1; rw [am_u_nk (by decide)] at this; exact this
    · have := o.2; rw [am_u_nk (by decide), am_u_ne (by decide)] at this; exact this
    · rw [e22, etop, q22]; exact vp_in_nI (by omega) (by decide)
    · rw [e22, etop] at z y ⊢
      rw [q22, q195, etop] at y
      have hn : ¬ x = 11 := fun q => y (by rw [q]; rfl)
      have z := fun q => z (lt.mpr q)
      rw [es z] at h
      refine ih (T ++ [x]) _ (fun a ha => hx a (by simp [ha])) pw.1 ⟨q22, by rw [q195]; exact r1, ?_⟩ hl2 g1 h
      have h91 : ¬ x = 91 := fun q => by subst q; exact z (show 0 < k by omega)
      rw [q19]
      have : dep (x :: st) = dep st := by show (if x = 11 ∨ x = 91 then 1 else 0) + dep st = dep st; rw [if_neg (fun q => q.elim hn h91)]; omega
      rw [this]
    · rw [e22, etop] at z y ⊢
      rw [q22, q195, etop] at y
      have hn : x = 11 := (nI_eq (b := 11) (by omega) (by decide)).mp y
      have z := fun q => z (lt.mpr q)
      rw [es z] at h
      have e19 : mPut (am_u I 186 22 (nI st.length)) (nI x) 0 186 19 - 1 = nI (dep st) := by
        rw [q19]
        have : dep (x :: st) = dep st + 1 := by show (if x = 11 ∨ x = 91 then 1 else 0) + dep st = dep st + 1; rw [if_pos (Or.inl hn)]; omega
        rw [this]; exact nI_pred _
      rw [e19]
      refine ih (T ++ [x]) _ (fun a ha => hx a (by simp [ha])) (pmR_st (am_u_ne (by decide)) (am_u_ne (by decide)) (fun k z1 _ => am_u_nk z1) pw.1) ⟨by rw [am_u_nk (by decide)]; exact q22, by rw [am_u_ne (by decide), q195]; exact r1, am_u_at⟩ hl2 (g1.tr (frZ.uf (by decide))) h
theorem sp_settles {I : am_I} {L : am_L} {p v tx k : Nat} {st T : List Nat} (hk1 : 1 ≤ k) (hk : k < 10) (hpt : p ≤ 400) (hx : ∀ x ∈ st, x < 200) (hs : pmR I p v tx T) (hst : skR I st) (hl : T.length + st.length ≤ p)
    (h : ∀ I', frZ tx I I' → pmR I' p v tx (setl k st T).2 → skR I' (setl k st T).1 → Q none I' L (gg Lx ρ)) : am_run (d + 2) m_Model_settles [.ref 186, .int (nI k)] I L (gg Lx ρ) Q :=
  run_in rfl rfl ⟨rfl, rfl⟩ (lp_settles (d := d) hk1 hk hpt st T I hx hs hst hl frZ.rf h)
theorem segAt_get {F : Nat → Int32} : ∀ {l : List Nat} {b i : Nat}, segAt F b l → i < l.length → F (b + i) = nI (l.getD i 0)
  | t :: l, b, 0, h, _ => h.1
  | t :: l, b, i + 1, h, hi => by
    have := segAt_get (l := l) (b := b + 1) (i := i) h.2 (by simpa using hi)
    rw [show b + (i + 1) = b + 1 + i by omega]; exact this
theorem sp_isInside {I : am_I} {L : am_L} {st : List Nat} (hst : skR I st) (hl : st.length ≤ 400) (hx : ∀ x ∈ st, x < 200) (h : Q (some (.int (bI (91 ∈ st)))) I L (gg Lx ρ)) : am_run (d + 1) m_Model_isInside [.ref 186] I L (gg Lx ρ) Q := by
  refine run_in rfl rfl ⟨rfl, rfl⟩ (sz_Model_isInside_0 ?_)
  have hlr : st.reverse.length = st.length := List.length_reverse
  have key : ∀ F k, k + F = st.length → (∀ i, i < k → ¬ st.reverse.getD i 0 = 91) → am_W am_all (am_run d) e_Model_isInside Q 2 [.ref 186, .int (nI k)] [] I L (gg Lx ρ) 0 0 := by
    intro F
    induction F with
    | zero =>
      intro k hk hn
      have hk : k = st.length := by omega
      subst hk
      have n0 : ¬ nI st.length < I 186 22 := by rw [hst.1]; exact nI_nlt (Nat.le_refl _) (by omega)
      have hm : ¬ 91 ∈ st := by
        intro q
        obtain ⟨i, hi, e⟩ := List.mem_iff_getElem.mp (List.mem_reverse.mpr q)
        rw [hlr] at hi
        exact hn i hi (by rw [List.getD_eq_getElem?_getD, List.getElem?_eq_getElem (by rw [hlr]; exact hi)]; exact e)
      rw [bI_f hm] at h
      exact sz_Model_isInside_2 _ (fun _ => h) (fun z => absurd z n0) (fun z => absurd z n0) (fun z => absurd z n0)
    | succ F ih =>
      intro k hk hn
      have y0 : nI k < I 186 22 := by rw [hst.1]; exact nI_lt (by omega) (by omega)
      have e : I 195 (nI k).toNatClampNeg = nI (st.reverse.getD k 0) := by
        rw [nI_clamp (by omega)]
        have := segAt_get (i := k) hst.2.1 (by rw [hlr]; omega)
        rw [Nat.zero_add] at this; exact this
      have hmem : st.reverse.getD k 0 ∈ st := by
        rw [List.getD_eq_getElem?_getD, List.getElem?_eq_getElem (by rw [hlr]; omega)]
        exact List.mem_reverse.mp (List.getElem_mem _)
      have hlt := hx _ hmem
      refine sz_Model_isInside_2 _ (fun z => absurd y0 z) (fun _ => vp_in_nI (by omega) (by decide)) (fun _ z => ?_) (fun _ z => ?_)
      · rw [e] at z
        rw [nI_1]
        refine ih (k + 1) (by omega) (fun i hi => ?_)
        by_cases w : i = k
        · subst w; exact fun q => z (by rw [q]; rfl)
        · exact hn i (by omega)
      · rw [e] at z
        have : st.reverse.getD k 0 = 91 := (nI_eq (b := 91) (by omega) (by decide)).mp z
        rw [this] at hmem
        rw [bI_t hmem] at h
        exact h
  exact key st.length 0 (by omega) (fun i hi => absurd hi (Nat.not_lt_zero i))
end RMU
