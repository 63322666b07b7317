/-! ===== rule: what is read is well formed ===== -/
theorem ty_ar {w : Nat} {bs : List Bool} (h1 : 2 ≤ w) (h2 : w ≤ 5) : ty1 w (false :: false :: bs) = some (false :: bs) := by
  unfold ty1
  rw [if_neg (by omega), if_neg (by omega), if_neg (by omega), if_neg (by omega), if_pos h2]
theorem ty_cm {w : Nat} {bs : List Bool} (h1 : 6 ≤ w) (h2 : w ≤ 10) : ty1 w (false :: false :: bs) = some (true :: bs) := by
  unfold ty1
  rw [if_neg (by omega), if_neg (by omega), if_neg (by omega), if_neg (by omega), if_neg (by omega), if_pos h2]
theorem ty_ao {w : Nat} {bs : List Bool} (h1 : w = 12 ∨ w = 13) : ty1 w (true :: true :: bs) = some (true :: bs) := by
  unfold ty1
  rw [if_neg (by omega), if_neg (by omega), if_neg (by omega), if_pos h1]
theorem ty_no {bs : List Bool} : ty1 11 (true :: bs) = some (true :: bs) := rfl
theorem tyA_sn {o : List Nat} {x : Nat} {bs s s' : List Bool} (h : tyA o bs = some s) (h1 : ty1 x s = some s') : tyA (o ++ [x]) bs = some s' := by
  rw [tyA_app, h]; show (ty1 x s).bind (tyA []) = _; rw [h1]; rfl
theorem tyA_ap {o o' : List Nat} {bs s s' : List Bool} (h : tyA o bs = some s) (h1 : tyA o' s = some s') : tyA (o ++ o') bs = some s' := by
  rw [tyA_app, h]; exact h1
theorem cntV_1 {x : Nat} : cntV [x] ≤ 1 := by
  show (if x % 16 ≤ 1 then 1 else 0) + 0 ≤ 1
  split <;> omega
theorem cntV_op {x : Nat} (h1 : 2 ≤ x) (h2 : x ≤ 13) : cntV [x] = 0 := by
  show (if x % 16 ≤ 1 then 1 else 0) + 0 = 0
  rw [if_neg (by omega)]
def tyW (w : Nat) (bs : List Bool) : List Bool := if w = 0 then false :: bs else false :: false :: bs
theorem wl_ty {o : List Nat} {w : Nat} {bs : List Bool} (hw : w = 0 ∨ (2 ≤ w ∧ w ≤ 5)) (h : tyA o bs = some (tyW w bs)) : tyA (o ++ wl w) bs = some (false :: bs) := by
  unfold tyW at h; unfold wl
  by_cases z : w = 0
  · rw [if_pos z] at h ⊢; rw [List.append_nil]; exact h
  · rw [if_neg z] at h ⊢; exact tyA_sn h (ty_ar (by omega) (by omega))
theorem wl_cnt {w : Nat} (hw : w = 0 ∨ (2 ≤ w ∧ w ≤ 5)) : cntV (wl w) = 0 := by
  unfold wl; split
  · rfl
  · exact cntV_op (by omega) (by omega)
theorem pkc_lt {B : Nat → Nat} {t p : Nat} {c : Int32} (h : pk B t p = c) (hc : c ≠ -1) : sk B t p < t := pk_m (fun z => hc (h.symm.trans z))
section RPG
variable {B : Nat → Nat} {t : Nat}
theorem sumL_g (hB : ∀ i, i < t → B i < 256) (ht : t ≤ 400) {p0 v0 : Nat} : ∀ F p v w o, p ≤ t → p0 < p → o.length + (wl w).length + p0 ≤ p → v0 + cntV o ≤ v → v ≤ 60 → (w = 0 ∨ (2 ≤ w ∧ w ≤ 5)) → (∀ bs, tyA o bs = some (tyW w bs)) → gd t false p0 v0 (sumL B t F p v w o) := by
  intro F
  induction F with
  | zero => intro p v w o _ _ _ _ _ _ _; exact gd_bad (by decide) (by decide)
  | succ F ih =>
    intro p v w o hp hp0 hl hv hv60 hw hty
    have hs := sk_le (B := B) hp
    rw [sumL]
    by_cases y1 : pk B t p = 43 ∨ pk B t p = 45
    · rw [if_pos y1]
      have hlt : sk B t p < t := by rcases y1 with y | y <;> exact pkc_lt y (by decide)
      have g := valP_g (v := v) hB ht (show sk B t p + 1 ≤ t by omega)
      by_cases z : (valP B t (sk B t p + 1) v).1 = 0
      · rw [if_pos z]
        obtain ⟨g1, g2, g3, g4, g5⟩ := g.2 z
        have hw2 : (if pk B t p = 43 then 2 else 3) = 2 ∨ (if pk B t p = 43 then 2 else 3) = 3 := by split; exact Or.inl rfl; exact Or.inr rfl
        refine ih _ _ _ _ g2 (by omega) ?_ ?_ (by omega) (by omega) (fun bs => ?_)
        · have : (wl (if pk B t p = 43 then 2 else 3)).length = 1 := by rcases hw2 with k | k <;> rw [k] <;> rfl
          rw [this]
          simp only [List.length_append, List.length_cons, List.length_nil]; omega
        · rw [cntV_app, cntV_app, wl_cnt hw, g3]; have := cntV_1 (x := (valP B t (sk B t p + 1) v).2.2.2); omega
        · have : tyW (if pk B t p = 43 then 2 else 3) bs = false :: false :: bs := by rcases hw2 with k | k <;> rw [k] <;> rfl
          rw [this]
          exact tyA_sn (wl_ty hw (hty bs)) (g5 _)
      · rw [if_neg z]; exact gd_bad g.1 z
    · rw [if_neg y1]
      by_cases y2 : pk B t p = 42 ∨ pk B t p = 47
      · rw [if_pos y2]
        have hlt : sk B t p < t := by rcases y2 with y | y <;> exact pkc_lt y (by decide)
        have g := valP_g (v := v) hB ht (show sk B t p + 1 ≤ t by omega)
        by_cases z : (valP B t (sk B t p + 1) v).1 = 0
        · rw [if_pos z]
          obtain ⟨g1, g2, g3, g4, g5⟩ := g.2 z
          have hx : 2 ≤ (if pk B t p = 42 then 4 else 5) ∧ (if pk B t p = 42 then 4 else 5) ≤ 5 := by split <;> decide
          have eo : o ++ [(valP B t (sk B t p + 1) v).2.2.2, if pk B t p = 42 then 4 else 5] = o ++ [(valP B t (sk B t p + 1) v).2.2.2] ++ [if pk B t p = 42 then 4 else 5] := by simp
          refine ih _ _ _ _ g2 (by omega) ?_ ?_ (by omega) hw (fun bs => ?_)
          · simp only [List.length_append, List.length_cons, List.length_nil]; omega
          · rw [eo, cntV_app, cntV_app, cntV_op (x := if pk B t p = 42 then 4 else 5) (by omega) (by omega), g3]; have := cntV_1 (x := (valP B t (sk B t p + 1) v).2.2.2); omega
          · rw [eo]
            have h1 := tyA_sn (hty bs) (g5 _)
            by_cases k : w = 0
            · have e : tyW w bs = false :: bs := if_pos k
              rw [e] at h1 ⊢
              exact tyA_sn h1 (ty_ar hx.1 hx.2)
            · have e : tyW w bs = false :: false :: bs := if_neg k
              rw [e] at h1 ⊢
              exact tyA_sn h1 (ty_ar hx.1 hx.2)
        · rw [if_neg z]; exact gd_bad g.1 z
      · rw [if_neg y2]
        refine ⟨by show 0 < 4000; decide, fun _ => ⟨by show p0 < sk B t p; omega, hs.2, ?_, ?_, hv60, fun bs => wl_ty hw (hty bs)⟩⟩
        · show (o ++ wl w).length + p0 ≤ sk B t p
          simp only [List.length_append]; omega
        · show v0 + cntV (o ++ wl w) ≤ v
          rw [cntV_app, wl_cnt hw]; omega
theorem sumP_g (hB : ∀ i, i < t → B i < 256) (ht : t ≤ 400) {p v : Nat} (hp : p ≤ t) : gd t false p v (sumP B t p v) := by
  have g := valP_g (v := v) hB ht hp
  unfold sumP
  by_cases z : (valP B t p v).1 = 0
  · rw [if_pos z]
    obtain ⟨g1, g2, g3, g4, g5⟩ := g.2 z
    refine sumL_g hB ht 401 _ _ _ _ g2 g1 ?_ ?_ (by omega) (Or.inl rfl) (fun bs => ?_)
    · show 1 + 0 + p ≤ _; omega
    · rw [g3]; have := cntV_1 (x := (valP B t p v).2.2.2); omega
    · exact tyA_sn (o := []) rfl (g5 bs)
  · rw [if_neg z]; exact gd_bad g.1 z
theorem sgnP_g (ht : t ≤ 400) {p v : Nat} (hp : p ≤ t) : (sgnP B t p v).1 < 4000 ∧ ((sgnP B t p v).1 = 0 → p < (sgnP B t p v).2.1 ∧ (sgnP B t p v).2.1 ≤ t ∧ (sgnP B t p v).2.2.1 = v + 1 ∧ v + 1 ≤ 60 ∧ 6 ≤ (sgnP B t p v).2.2.2 ∧ (sgnP B t p v).2.2.2 ≤ 10) := by
  have hs := sk_le (B := B) hp
  have hm : mk3 v (sk B t p) < 4000 := by unfold mk3; split <;> omega
  have hm0 : mk3 v (sk B t p) = 0 → v < 60 := by unfold mk3; split <;> omega
  have he : ∀ (_ : sk B t p < t), p < (if eqs B t (sk B t p) = true then sk B t p + 2 else sk B t p + 1) ∧ (if eqs B t (sk B t p) = true then sk B t p + 2 else sk B t p + 1) ≤ t := by
    intro h
    split
    · rename_i k; have := (of_decide_eq_true k).1; omega
    · omega
  unfold sgnP
  by_cases y1 : pk B t p = 60
  · rw [if_pos y1]
    have h := he (pkc_lt y1 (by decide))
    exact ⟨hm, fun k => ⟨h.1, h.2, rfl, by have := hm0 k; omega, by show 6 ≤ (if eqs B t (sk B t p) = true then 7 else 6); split <;> decide, by show (if eqs B t (sk B t p) = true then 7 else 6) ≤ 10; split <;> decide⟩⟩
  · rw [if_neg y1]
    by_cases y2 : pk B t p = 61
    · rw [if_pos y2]
      have h := pkc_lt y2 (by decide)
      exact ⟨hm, fun k => ⟨by show p < sk B t p + 1; omega, by show sk B t p + 1 ≤ t; omega, rfl, by have := hm0 k; omega, by show 6 ≤ 8; decide, by show 8 ≤ 10; decide⟩⟩
    · rw [if_neg y2]
      by_cases y3 : pk B t p = 62
      · rw [if_pos y3]
        have h := he (pkc_lt y3 (by decide))
        exact ⟨hm, fun k => ⟨h.1, h.2, rfl, by have := hm0 k; omega, by show 6 ≤ (if eqs B t (sk B t p) = true then 9 else 10); split <;> decide, by show (if eqs B t (sk B t p) = true then 9 else 10) ≤ 10; split <;> decide⟩⟩
      · rw [if_neg y3]
        exact ⟨by show 1 + 8 * sk B t p < 4000; omega, fun k => absurd (show 1 + 8 * sk B t p = 0 from k) (by omega)⟩
theorem cmpP_g (hB : ∀ i, i < t → B i < 256) (ht : t ≤ 400) {p v : Nat} (hp : p ≤ t) : gd t true p v (cmpP B t p v) := by
  have g := sumP_g hB ht (v := v) hp
  unfold cmpP bnd
  by_cases z : (sumP B t p v).1 = 0
  · rw [if_pos z]
    dsimp only
    obtain ⟨g1, g2, g3, g4, g5, g6⟩ := g.2 z
    have s := sgnP_g (B := B) (v := (sumP B t p v).2.2.1) ht g2
    by_cases y : (sgnP B t (sumP B t p v).2.1 (sumP B t p v).2.2.1).1 = 0
    · rw [if_pos y]
      obtain ⟨s1, s2, s3, s4, s5, s6⟩ := s.2 y
      have r := sumP_g hB ht (v := (sgnP B t (sumP B t p v).2.1 (sumP B t p v).2.2.1).2.2.1) s2
      by_cases x : (sumP B t (sgnP B t (sumP B t p v).2.1 (sumP B t p v).2.2.1).2.1 (sgnP B t (sumP B t p v).2.1 (sumP B t p v).2.2.1).2.2.1).1 = 0
      · rw [if_pos x]
        obtain ⟨r1, r2, r3, r4, r5, r6⟩ := r.2 x
        refine ⟨by show 0 < 4000; decide, fun _ => ⟨?_, r2, ?_, ?_, r5, fun bs => tyA_sn (tyA_ap (g6 bs) (r6 _)) (ty_cm s5 s6)⟩⟩
        · show p < (sumP B t (sgnP B t (sumP B t p v).2.1 (sumP B t p v).2.2.1).2.1 (sgnP B t (sumP B t p v).2.1 (sumP B t p v).2.2.1).2.2.1).2.1; omega
        · show (_ ++ _ ++ [_]).length + p ≤ _
          simp only [List.length_append, List.length_cons, List.length_nil]; omega
        · show v + cntV (_ ++ _ ++ [_]) ≤ (sumP B t (sgnP B t (sumP B t p v).2.1 (sumP B t p v).2.2.1).2.1 (sgnP B t (sumP B t p v).2.1 (sumP B t p v).2.2.1).2.2.1).2.2.1
          rw [cntV_app, cntV_app, cntV_op (x := (sgnP B t (sumP B t p v).2.1 (sumP B t p v).2.2.1).2.2.2) (by omega) (by omega)]; omega
      · rw [if_neg x]; exact gd_bad r.1 x
    · rw [if_neg y]; exact gd_bad s.1 y
  · rw [if_neg z]; exact gd_bad g.1 z
def tyO (b : Bool) (bs : List Bool) : List Bool := if b = true then true :: true :: bs else true :: bs
theorem o13_ty {o : List Nat} {b : Bool} {bs : List Bool} (h : tyA o bs = some (tyO b bs)) : tyA (o ++ o13 b) bs = some (true :: bs) := by
  cases b with
  | false => rw [show o13 false = [] from rfl, List.append_nil]; exact h
  | true => exact tyA_sn h (ty_ao (Or.inr rfl))
theorem o13_c {b : Bool} : cntV (o13 b) = 0 := by cases b <;> rfl
theorem o13_l {b : Bool} : (o13 b).length = if b = true then 1 else 0 := by cases b <;> rfl
theorem tstL_g (ht : t ≤ 400) {fact : FT} (hf : ∀ p v, p ≤ t → gd t true p v (fact p v)) {p0 v0 : Nat} : ∀ F b p v o, p ≤ t → p0 < p → o.length + (o13 b).length + p0 ≤ p → v0 + cntV o ≤ v → v ≤ 60 → (∀ bs, tyA o bs = some (tyO b bs)) → gd t true p0 v0 (tstL B t fact F b p v o) := by
  intro F
  induction F with
  | zero => intro b p v o _ _ _ _ _ _; exact gd_bad (by decide) (by decide)
  | succ F ih =>
    intro b p v o hp hp0 hl hv hv60 hty
    have hs := sk_le (B := B) hp
    rw [tstL]
    by_cases y1 : isW B t (sk B t p) wAnd = true
    · rw [if_pos y1]
      have hq : sk B t p + 3 ≤ t := isW_le hs.2 y1
      have g := hf _ v hq
      unfold bnd
      by_cases z : (fact (sk B t p + 3) v).1 = 0
      · rw [if_pos z]
        obtain ⟨g1, g2, g3, g4, g5, g6⟩ := g.2 z
        refine ih _ _ _ _ g2 (by omega) ?_ ?_ g5 (fun bs => ?_)
        · simp only [List.length_append, List.length_cons, List.length_nil]; omega
        · rw [cntV_app, cntV_app, cntV_op (by decide) (by decide)]; omega
        · cases b with
          | false => exact tyA_sn (tyA_ap (hty bs) (g6 _)) (ty_ao (Or.inl rfl))
          | true => exact tyA_sn (tyA_ap (hty bs) (g6 _)) (ty_ao (Or.inl rfl))
      · rw [if_neg z]; exact gd_bad g.1 z
    · rw [if_neg y1]
      by_cases y2 : isW B t (sk B t p) wOr = true
      · rw [if_pos y2]
        have hq : sk B t p + 2 ≤ t := isW_le hs.2 y2
        have g := hf _ v hq
        unfold bnd
        by_cases z : (fact (sk B t p + 2) v).1 = 0
        · rw [if_pos z]
          obtain ⟨g1, g2, g3, g4, g5, g6⟩ := g.2 z
          refine ih _ _ _ _ g2 (by omega) ?_ ?_ g5 (fun bs => ?_)
          · simp only [List.length_append]; show _ + 1 + p0 ≤ _; omega
          · rw [cntV_app, cntV_app, o13_c]; omega
          · exact tyA_ap (o13_ty (hty bs)) (g6 _)
        · rw [if_neg z]; exact gd_bad g.1 z
      · rw [if_neg y2]
        refine ⟨by show 0 < 4000; decide, fun _ => ⟨by show p0 < sk B t p; omega, hs.2, ?_, ?_, hv60, fun bs => o13_ty (hty bs)⟩⟩
        · show (o ++ o13 b).length + p0 ≤ sk B t p
          simp only [List.length_append]; omega
        · show v0 + cntV (o ++ o13 b) ≤ v
          rw [cntV_app, o13_c]; omega
theorem testF_g (ht : t ≤ 400) {fact : FT} (hf : ∀ p v, p ≤ t → gd t true p v (fact p v)) {p v : Nat} (hp : p ≤ t) : gd t true p v (testF B t fact p v) := by
  have g := hf p v hp
  unfold testF bnd
  by_cases z : (fact p v).1 = 0
  · rw [if_pos z]
    obtain ⟨g1, g2, g3, g4, g5, g6⟩ := g.2 z
    exact tstL_g ht hf 401 _ _ _ _ g2 g1 (by show _ + 0 + p ≤ _; omega) (by omega) g5 g6
  · rw [if_neg z]; exact gd_bad g.1 z
theorem stpF_g (hB : ∀ i, i < t → B i < 256) (ht : t ≤ 400) {inner : Option FT} (hf : ∀ f, inner = some f → ∀ p v, p ≤ t → gd t true p v (f p v)) {p v : Nat} (hp : p ≤ t) : gd t true p v (stpF B t inner p v) := by
  have hs := sk_le (B := B) hp
  unfold stpF
  by_cases y1 : isW B t (sk B t p) wNot = true
  · rw [if_pos y1]
    have hq : sk B t p + 3 ≤ t := isW_le hs.2 y1
    cases inner with
    | none => exact gd_bad (by omega) (by omega)
    | some f =>
      have g := hf f rfl _ v hq
      show gd t true p v (bnd _ _)
      unfold bnd
      by_cases z : (f (sk B t p + 3) v).1 = 0
      · rw [if_pos z]
        obtain ⟨g1, g2, g3, g4, g5, g6⟩ := g.2 z
        refine ⟨by show 0 < 4000; decide, fun _ => ⟨?_, g2, ?_, ?_, g5, fun bs => tyA_sn (g6 bs) ty_no⟩⟩
        · show p < (f (sk B t p + 3) v).2.1; omega
        · show (_ ++ [_]).length + p ≤ _
          simp only [List.length_append, List.length_cons, List.length_nil]; omega
        · show v + cntV (_ ++ [_]) ≤ _
          rw [cntV_app, cntV_op (by decide) (by decide)]; omega
      · rw [if_neg z]; exact gd_bad g.1 z
  · rw [if_neg y1]
    by_cases y2 : pk B t p = 91
    · rw [if_pos y2]
      have hlt := pkc_lt y2 (by decide)
      cases inner with
      | none => exact gd_bad (by omega) (by omega)
      | some f =>
        have g := testF_g (B := B) ht (hf f rfl) (v := v) (show sk B t p + 1 ≤ t by omega)
        show gd t true p v (bnd _ _)
        unfold bnd
        by_cases z : (testF B t f (sk B t p + 1) v).1 = 0
        · rw [if_pos z]
          obtain ⟨g1, g2, g3, g4, g5, g6⟩ := g.2 z
          have h2 := sk_le (B := B) g2
          dsimp only
          by_cases y : pk B t (testF B t f (sk B t p + 1) v).2.1 = 93
          · rw [if_pos y]
            have hl2 := pkc_lt y (by decide)
            refine ⟨by show 0 < 4000; decide, fun _ => ⟨?_, ?_, ?_, g4, g5, g6⟩⟩
            · show p < sk B t (testF B t f (sk B t p + 1) v).2.1 + 1; omega
            · show sk B t (testF B t f (sk B t p + 1) v).2.1 + 1 ≤ t; omega
            · show (testF B t f (sk B t p + 1) v).2.2.2.length + p ≤ sk B t (testF B t f (sk B t p + 1) v).2.1 + 1; omega
          · rw [if_neg y]; exact gd_bad (by omega) (by omega)
        · rw [if_neg z]; exact gd_bad g.1 z
    · rw [if_neg y2]
      have g := cmpP_g hB ht (v := v) hs.2
      refine ⟨g.1, fun z => ?_⟩
      obtain ⟨g1, g2, g3, g4, g5, g6⟩ := g.2 z
      exact ⟨by omega, g2, by omega, g4, g5, g6⟩
theorem factP_g (hB : ∀ i, i < t → B i < 256) (ht : t ≤ 400) : ∀ k p v, p ≤ t → gd t true p v (factP B t k p v) := by
  intro k
  induction k with
  | zero => intro p v hp; exact stpF_g hB ht (fun f h => by simp at h) hp
  | succ k ih => intro p v hp; exact stpF_g hB ht (fun f h => by injection h with h; subst h; exact ih) hp
end RPG
