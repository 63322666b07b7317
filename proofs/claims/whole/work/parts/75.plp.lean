/-! ===== plan: tables, numbers of situations, what a plan is (pf_shr out of the kit's BITS.to-paste) ===== -/
theorem cnt_all {p : Nat → Bool} : ∀ M, (∀ i, i < M → p i = true) → cnt p M = M
  | 0, _ => rfl
  | M + 1, h => by
    unfold cnt
    rw [if_pos (h M (by omega)), cnt_all M (fun i hi => h i (by omega))]
theorem cnt_up {p p' : Nat → Bool} {a : Nat} (h0 : p a = false) (h1 : p' a = true) (h2 : ∀ i, i ≠ a → p' i = p i) : ∀ M, (a < M → cnt p' M = cnt p M + 1) ∧ (M ≤ a → cnt p' M = cnt p M)
  | 0 => ⟨fun z => absurd z (Nat.not_lt_zero _), fun _ => rfl⟩
  | M + 1 => by
    obtain ⟨i1, i2⟩ := cnt_up h0 h1 h2 M
    unfold cnt
    by_cases e : M = a
    · subst e
      rw [h0, h1, if_pos rfl, if_neg (by decide), i2 (Nat.le_refl _)]
      exact ⟨fun _ => rfl, fun z => absurd z (by omega)⟩
    · rw [h2 M e]
      refine ⟨fun z => ?_, fun z => ?_⟩
      · have := i1 (by omega)
        split <;> omega
      · rw [i2 (by omega)]
/-- a table of M slots with N keys, each put by its hash -/
def tbl (tab : Nat → Int32) (M N : Nat) (hs : Nat → Nat) : Prop := (∀ a, a < M → tab a = 0 ∨ ∃ k, k < N ∧ tab a = nI (k + 1)) ∧ (∀ k, k < N → ∃ t, t < M ∧ tab ((hs k + t) % M) = nI (k + 1) ∧ ∀ u, u < t → ¬ tab ((hs k + u) % M) = 0) ∧ cnt (fun a => decide (¬ tab a = 0)) M = N
theorem tb_0 {tab : Nat → Int32} {M : Nat} {hs : Nat → Nat} (h : ∀ a, a < M → tab a = 0) : tbl tab M 0 hs := by
  refine ⟨fun a ha => Or.inl (h a ha), fun k hk => absurd hk (Nat.not_lt_zero _), ?_⟩
  have : ∀ m, m ≤ M → cnt (fun a => decide (¬ tab a = 0)) m = 0 := by
    intro m
    induction m with
    | zero => intro _; rfl
    | succ m ih =>
      intro hm
      unfold cnt
      rw [if_neg (by rw [decide_eq_true_iff]; exact fun z => z (h m (by omega))), ih (by omega)]
  exact this M (Nat.le_refl _)
theorem tb_look {tab : Nat → Int32} {M N h0 : Nat} {hs : Nat → Nat} {key : Nat → Prop} (h : tbl tab M N hs) (hN : N < M) (hM : M < 10000) (hk : ∀ k, k < N → key k → hs k = h0) :
    ∃ t, t < M ∧ (∀ u, u < t → ∃ k, k < N ∧ tab ((h0 + u) % M) = nI (k + 1) ∧ ¬ key k) ∧ ((tab ((h0 + t) % M) = 0 ∧ ∀ k, k < N → ¬ key k) ∨ ∃ k, k < N ∧ tab ((h0 + t) % M) = nI (k + 1) ∧ key k) := by
  have hM0 : 0 < M := by omega
  have hex : ∃ t, t < M ∧ (tab ((h0 + t) % M) = 0 ∨ ∃ k, k < N ∧ tab ((h0 + t) % M) = nI (k + 1) ∧ key k) := by
    by_cases hc : ∃ k, k < N ∧ key k
    · obtain ⟨k, k1, k2⟩ := hc
      obtain ⟨t, t1, t2, t3⟩ := h.2.1 k k1
      rw [hk k k1 k2] at t2
      exact ⟨t, t1, Or.inr ⟨k, k1, t2, k2⟩⟩
    · apply Classical.byContradiction
      intro hno
      have hall : ∀ a, a < M → decide (¬ tab a = 0) = true := by
        intro a ha
        refine decide_eq_true fun z => hno ⟨(a + (M - h0 % M)) % M, Nat.mod_lt _ hM0, Or.inl ?_⟩
        have h1 := Nat.mod_lt h0 hM0
        have e : (h0 + (a + (M - h0 % M)) % M) % M = a := by
          generalize hq : h0 % M = q at h1 ⊢
          rw [Nat.add_mod, hq, Nat.mod_mod, ← Nat.mod_eq_of_lt (a := q) h1, ← Nat.add_mod, Nat.mod_eq_of_lt h1, show q + (a + (M - q)) = a + M by omega, Nat.add_mod_right, Nat.mod_eq_of_lt ha]
        rw [e]; exact z
      have := cnt_all (p := fun a => decide (¬ tab a = 0)) M hall
      rw [h.2.2] at this
      omega
  obtain ⟨t, ⟨t1, t2⟩, t3⟩ := pk_least _ hex
  have hpre : ∀ u, u < t → ∃ k, k < N ∧ tab ((h0 + u) % M) = nI (k + 1) ∧ ¬ key k := by
    intro u hu
    have hn := t3 u hu
    rcases h.1 ((h0 + u) % M) (Nat.mod_lt _ hM0) with z | ⟨k, k1, k2⟩
    · exact absurd ⟨by omega, Or.inl z⟩ hn
    · exact ⟨k, k1, k2, fun z => hn ⟨by omega, Or.inr ⟨k, k1, k2, z⟩⟩⟩
  refine ⟨t, t1, hpre, ?_⟩
  rcases t2 with z | z
  · refine Or.inl ⟨z, fun k k1 k2 => ?_⟩
    obtain ⟨q, q1, q2, q3⟩ := h.2.1 k k1
    rw [hk k k1 k2] at q2 q3
    by_cases y : t < q
    · exact q3 t y z
    · by_cases y2 : t = q
      · subst y2
        rw [z] at q2
        exact nI_ne0 (Nat.succ_pos k) (by omega) q2.symm
      · exact t3 q (by omega) ⟨q1, Or.inr ⟨k, k1, q2, k2⟩⟩
  · exact Or.inr z
theorem tb_put {tab tab' : Nat → Int32} {M N h0 t : Nat} {hs hs' : Nat → Nat} (h : tbl tab M N hs) (hM : M < 10000) (hM0 : 0 < M) (hN : N < M) (ht : t < M) (hp : ∀ u, u < t → ¬ tab ((h0 + u) % M) = 0) (hz : tab ((h0 + t) % M) = 0) (h1 : tab' ((h0 + t) % M) = nI (N + 1)) (h2 : ∀ a, a ≠ (h0 + t) % M → tab' a = tab a) (h3 : ∀ k, k < N → hs' k = hs k) (h4 : hs' N = h0) : tbl tab' M (N + 1) hs' := by
  have hne : ∀ a, ¬ tab a = 0 → tab' a = tab a := fun a z => h2 a (fun e => z (e ▸ hz))
  refine ⟨fun a ha => ?_, fun k hk => ?_, ?_⟩
  · by_cases e : a = (h0 + t) % M
    · subst e; exact Or.inr ⟨N, by omega, h1⟩
    · rw [h2 a e]
      rcases h.1 a ha with z | ⟨k, k1, k2⟩
      · exact Or.inl z
      · exact Or.inr ⟨k, by omega, k2⟩
  · by_cases e : k = N
    · subst e
      rw [h4]
      refine ⟨t, ht, h1, fun u hu => ?_⟩
      rw [hne _ (hp u hu)]; exact hp u hu
    · rw [h3 k (by omega)]
      obtain ⟨q, q1, q2, q3⟩ := h.2.1 k (by omega)
      refine ⟨q, q1, ?_, fun u hu => ?_⟩
      · rw [hne _ (by rw [q2]; exact nI_ne0 (Nat.succ_pos k) (by omega))]; exact q2
      · rw [hne _ (q3 u hu)]; exact q3 u hu
  · have := (cnt_up (p := fun a => decide (¬ tab a = 0)) (p' := fun a => decide (¬ tab' a = 0)) (a := (h0 + t) % M) (by rw [decide_eq_false_iff_not]; exact fun q => q hz) (by rw [decide_eq_true_iff, h1]; exact nI_ne0 (Nat.succ_pos N) (by omega)) (fun i hi => by show decide (¬ tab' i = 0) = decide (¬ tab i = 0); rw [h2 i hi]) M).1 (Nat.mod_lt _ hM0)
    rw [this, h.2.2]
abbrev Sit : Type := Nat × Bool × List Nat
def b01 (b : Bool) : Nat := if b = true then 1 else 0
theorem b01_le (b : Bool) : b01 b ≤ 1 := by unfold b01; split <;> omega
theorem b01_inj {a b : Bool} (h : b01 a = b01 b) : a = b := by
  cases a <;> cases b <;> first | rfl | exact absurd h (by decide)
def lsC (ls : List Nat) : Nat := ls.foldr (fun x a => a * 8 + x) 0
def lsR (c : Nat) (ls : List Nat) : Nat := ls.foldl (fun a x => 8 * a + x) c
def eC (s : Sit) : Nat := (lsC s.2.2 * 2 + b01 s.2.1) * 16 + s.1
def eR (s : Sit) : Nat := lsR (2 * s.1 + b01 s.2.1) s.2.2
def okS (n : Nat) (s : Sit) : Prop := s.1 < 10 ∧ s.2.2.length = n ∧ ∀ x ∈ s.2.2, x ≤ 7
theorem lsC_lt : ∀ ls : List Nat, (∀ x ∈ ls, x ≤ 7) → lsC ls < 8 ^ ls.length
  | [], _ => by show 0 < 8 ^ 0; decide
  | x :: ls, h => by
    have h1 := lsC_lt ls (fun y hy => h y (List.mem_cons_of_mem _ hy))
    have h2 := h x List.mem_cons_self
    show lsC ls * 8 + x < 8 ^ (ls.length + 1)
    rw [Nat.pow_succ]; omega
theorem lsC_inj : ∀ {l l' : List Nat}, l.length = l'.length → (∀ x ∈ l, x ≤ 7) → (∀ x ∈ l', x ≤ 7) → lsC l = lsC l' → l = l'
  | [], [], _, _, _, _ => rfl
  | [], _ :: _, h, _, _, _ => absurd h (by simp)
  | _ :: _, [], h, _, _, _ => absurd h (by simp)
  | x :: l, y :: l', h, h1, h2, e => by
    have e : lsC l * 8 + x = lsC l' * 8 + y := e
    have hx := h1 x List.mem_cons_self
    have hy := h2 y List.mem_cons_self
    have e1 : x = y := by omega
    have e2 : lsC l = lsC l' := by omega
    rw [e1, lsC_inj (by simpa using h) (fun z hz => h1 z (List.mem_cons_of_mem _ hz)) (fun z hz => h2 z (List.mem_cons_of_mem _ hz)) e2]
theorem lsR_sn (c : Nat) (ls : List Nat) (x : Nat) : lsR c (ls ++ [x]) = 8 * lsR c ls + x := by unfold lsR; rw [List.foldl_append]; rfl
theorem lsR_lt {c : Nat} (hc : c < 20) : ∀ ls : List Nat, (∀ x ∈ ls, x ≤ 7) → lsR c ls < 20 * 8 ^ ls.length := by
  refine snoc_ind (fun _ => by show c < 20 * 8 ^ 0; omega) (fun ls x ih h => ?_)
  have h1 := ih (fun y hy => h y (List.mem_append_left _ hy))
  have h2 := h x (by simp)
  rw [lsR_sn, List.length_append]
  show 8 * lsR c ls + x < 20 * 8 ^ (ls.length + 1)
  rw [Nat.pow_succ]; omega
theorem lsR_inj {c c' : Nat} : ∀ (l l' : List Nat), l.length = l'.length → (∀ x ∈ l, x ≤ 7) → (∀ x ∈ l', x ≤ 7) → lsR c l = lsR c' l' → c = c' ∧ l = l' := by
  refine snoc_ind (fun l' hl _ _ e => ?_) (fun l x ih l' hl h1 h2 e => ?_)
  · have : l' = [] := List.eq_nil_of_length_eq_zero hl.symm
    subst this
    exact ⟨e, rfl⟩
  · rcases List.eq_nil_or_concat l' with rfl | ⟨m, y, rfl⟩
    · simp at hl
    · rw [List.concat_eq_append] at hl h2 e ⊢
      rw [lsR_sn, lsR_sn] at e
      have hx := h1 x (by simp)
      have hy := h2 y (by simp)
      obtain ⟨i1, i2⟩ := ih m (by simpa using hl) (fun z hz => h1 z (List.mem_append_left _ hz)) (fun z hz => h2 z (List.mem_append_left _ hz)) (by omega)
      refine ⟨i1, ?_⟩
      rw [i2, show x = y by omega]
theorem eC_inj {n : Nat} {s t : Sit} (hs : okS n s) (ht : okS n t) (h : eC s = eC t) : s = t := by
  obtain ⟨p, b, l⟩ := s
  obtain ⟨p', b', l'⟩ := t
  have h : (lsC l * 2 + b01 b) * 16 + p = (lsC l' * 2 + b01 b') * 16 + p' := h
  have h1 : p < 10 := hs.1
  have h2 : p' < 10 := ht.1
  have h3 := b01_le b
  have h4 := b01_le b'
  have e1 : p = p' := by omega
  have e2 : b01 b = b01 b' := by omega
  have e3 : lsC l = lsC l' := by omega
  have e4 : l = l' := lsC_inj (hs.2.1.trans ht.2.1.symm) hs.2.2 ht.2.2 e3
  rw [e1, b01_inj e2, e4]
theorem eR_inj {n : Nat} {s t : Sit} (hs : okS n s) (ht : okS n t) (h : eR s = eR t) : s = t := by
  obtain ⟨p, b, l⟩ := s
  obtain ⟨p', b', l'⟩ := t
  have h : lsR (2 * p + b01 b) l = lsR (2 * p' + b01 b') l' := h
  obtain ⟨e1, e2⟩ := lsR_inj l l' (hs.2.1.trans ht.2.1.symm) hs.2.2 ht.2.2 h
  have h3 := b01_le b
  have h4 := b01_le b'
  have e3 : p = p' := by omega
  have e4 : b01 b = b01 b' := by omega
  rw [e3, b01_inj e4, e2]
theorem p8_16 {n : Nat} (hn : n ≤ 16) : 8 ^ n ≤ 2 ^ 48 := Nat.le_trans (Nat.pow_le_pow_right (by decide) hn) (by decide)
theorem eC_lt {n : Nat} {s : Sit} (hn : n ≤ 16) (hs : okS n s) : eC s < 2 ^ 53 := by
  have h1 := lsC_lt s.2.2 hs.2.2
  have h2 := p8_16 hn
  have h3 := b01_le s.2.1
  have h4 := hs.1
  rw [hs.2.1] at h1
  unfold eC
  omega
theorem eR_lt {n : Nat} {s : Sit} (hn : n ≤ 16) (hs : okS n s) : eR s < 2 ^ 53 := by
  have h3 := b01_le s.2.1
  have h4 := hs.1
  have h1 := lsR_lt (c := 2 * s.1 + b01 s.2.1) (by omega) s.2.2 hs.2.2
  have h2 := p8_16 hn
  rw [hs.2.1] at h1
  unfold eR
  omega
/-! the plan -/
def fU {α : Type} (g : Nat → α) (k : Nat) (v : α) : Nat → α := fun i => if i = k then v else g i
theorem fU_at {α : Type} {g : Nat → α} {k : Nat} {v : α} : fU g k v k = v := if_pos rfl
theorem fU_ne {α : Type} {g : Nat → α} {k i : Nat} {v : α} (h : i ≠ k) : fU g k v i = g i := if_neg h
abbrev PSt : Type := Nat × (Nat → Sit) × (Nat → Nat) × Bool
def plCm (st : PSt) (s : Sit) (dd : Nat) : PSt := match fnd (fun k => decide (st.2.1 k = s)) st.1 0 with
  | some k => (st.1, st.2.1, fU st.2.2.1 k (min (st.2.2.1 k) dd), st.2.2.2)
  | none => if st.1 < 1000 then (st.1 + 1, fU st.2.1 st.1 s, fU st.2.2.1 st.1 dd, st.2.2.2) else (st.1, st.2.1, st.2.2.1, true)
/-- roads with other lasts -/
def fL (f : Nat → Int32) (n : Nat) (ls : List Nat) : Nat → Int32 := fun i => if i % 5 = 0 ∧ 10 ≤ i ∧ i < 10 + 5 * n then nI (ls.getD ((i - 10) / 5) 0) else f i
theorem fL_3 {f : Nat → Int32} {n j : Nat} {ls : List Nat} (h : j < n) : fL f n ls (7 + 5 * j + 3) = nI (ls.getD j 0) := by
  unfold fL
  rw [if_pos ⟨by omega, by omega, by omega⟩, show (7 + 5 * j + 3 - 10) / 5 = j by omega]
theorem fL_o {f : Nat → Int32} {n i : Nat} {ls : List Nat} (h : ¬ (i % 5 = 0 ∧ 10 ≤ i ∧ i < 10 + 5 * n)) : fL f n ls i = f i := if_neg h
section PLP
variable (Rs : List (List (Nat × List Nat))) (f : Nat → Int32) (n kd lies D0 : Nat)
def plK (s : Sit) : Int32 := if s.2.1 = true then nI kd else 0
def plT (s : Sit) (r : Nat) : Nat := otN (rA f) (rB f) r s.1
def plN (s : Sit) (D r : Nat) : Sit := (plT f s r, s.2.1 || decide (plT f s r = lies), s.2.2.set r (pLst Rs (fL f n s.2.2) r (nI s.1) (plK kd s) (nI (D0 + D))).toNatClampNeg)
def plRd (s : Sit) (D r : Nat) (st : PSt) : PSt :=
  if pBrk Rs (fL f n s.2.2) r (nI s.1) (plK kd s) (nI (D0 + D)) = 0 then plCm st (plN Rs f n kd lies D0 s D r) (D + rD f r) else st
def plGo (s : Sit) (D : Nat) : Nat → PSt → PSt
  | 0, st => st
  | r + 1, st => plRd Rs f n kd lies D0 s D r (plGo s D r st)
def plR (goal : Nat) : Nat → PSt → Nat → Nat → Int32
  | 0, _, _, _ => -2
  | F + 1, st, D, i => if 9000 < D then -2 else if i < st.1 then (if st.2.2.1 i = D then (if (st.2.1 i).2.1 = true ∧ (st.2.1 i).1 = goal then nI D else if (plGo Rs f n kd lies D0 (st.2.1 i) D n st).2.2.2 = true then -3 else plR goal F (plGo Rs f n kd lies D0 (st.2.1 i) D n st) D (i + 1)) else plR goal F st D (i + 1)) else plR goal F st (D + 1) 0
end PLP
def lst0 (f : Nat → Int32) (n : Nat) : List Nat := (List.range n).map (fun j => rL f j)
def plS0 (f : Nat → Int32) (n lies p : Nat) : PSt := plCm (0, fun _ => (0, false, []), fun _ => 0, false) (p, decide (p = lies), lst0 f n) 0
def pPl (Rs : List (List (Nat × List Nat))) (f : Nat → Int32) (n C m : Nat) (x y : Int32) : Int32 :=
  if vN C x ∧ vN m y ∧ f (92 + 3 * x.toNatClampNeg + 1) = -1 ∧ pWa f y.toNatClampNeg then plR Rs f n (lK f y.toNatClampNeg) (lP f y.toNatClampNeg) (cD f x.toNatClampNeg) (lG f y.toNatClampNeg) 10000000 (plS0 f n (lP f y.toNatClampNeg) (cS f x.toNatClampNeg)) 0 0 else -1
/-- what holds of a state under way -/
def plW (n : Nat) (st : PSt) : Prop := st.1 ≤ 1000 ∧ (∀ k, k < st.1 → okS n (st.2.1 k) ∧ st.2.2.1 k ≤ 9 * k) ∧ ∀ j k, j < st.1 → k < st.1 → st.2.1 j = st.2.1 k → j = k
theorem plCm_f {n : Nat} {st : PSt} {s : Sit} {dd k : Nat} (h : plW n st) (hk : k < st.1) (e : st.2.1 k = s) : plCm st s dd = (st.1, st.2.1, fU st.2.2.1 k (min (st.2.2.1 k) dd), st.2.2.2) := by
  unfold plCm
  cases e1 : fnd (fun k => decide (st.2.1 k = s)) st.1 0 with
  | none =>
    have := fnd_none e1 k (Nat.zero_le _) (by omega)
    exact absurd e (of_decide_eq_false this)
  | some j =>
    obtain ⟨j1, j2, j3⟩ := fnd_some e1
    have : j = k := h.2.2 j k (by omega) hk ((of_decide_eq_true j3).trans e.symm)
    subst this; rfl
theorem plCm_n {st : PSt} {s : Sit} {dd : Nat} (h : ∀ k, k < st.1 → ¬ st.2.1 k = s) : plCm st s dd = if st.1 < 1000 then (st.1 + 1, fU st.2.1 st.1 s, fU st.2.2.1 st.1 dd, st.2.2.2) else (st.1, st.2.1, st.2.2.1, true) := by
  unfold plCm
  cases e1 : fnd (fun k => decide (st.2.1 k = s)) st.1 0 with
  | none => rfl
  | some j =>
    obtain ⟨j1, j2, j3⟩ := fnd_some e1
    exact absurd (of_decide_eq_true j3) (h j (by omega))
theorem plCm_w {n : Nat} {st : PSt} {s : Sit} {dd : Nat} (h : plW n st) (hs : okS n s) (hd : dd ≤ 9 * st.1) : plW n (plCm st s dd) ∧ st.1 ≤ (plCm st s dd).1 ∧ (∀ k, k < st.1 → (plCm st s dd).2.1 k = st.2.1 k) ∧ (st.2.2.2 = true → (plCm st s dd).2.2.2 = true) := by
  by_cases hc : ∃ k, k < st.1 ∧ st.2.1 k = s
  · obtain ⟨k, hk, e⟩ := hc
    rw [plCm_f h hk e]
    refine ⟨⟨h.1, fun j hj => ⟨(h.2.1 j hj).1, ?_⟩, h.2.2⟩, Nat.le_refl _, fun _ _ => rfl, id⟩
    show fU st.2.2.1 k _ j ≤ 9 * j
    by_cases z : j = k
    · subst z; rw [fU_at]; exact Nat.le_trans (Nat.min_le_left _ _) (h.2.1 j hj).2
    · rw [fU_ne z]; exact (h.2.1 j hj).2
  · have hno : ∀ k, k < st.1 → ¬ st.2.1 k = s := fun k hk e => hc ⟨k, hk, e⟩
    rw [plCm_n hno]
    split
    · next z =>
      refine ⟨⟨z, fun j hj => ?_, fun j k hj hk e => ?_⟩, Nat.le_succ _, fun k hk => fU_ne (by omega), id⟩
      · have hj : j < st.1 + 1 := hj
        show okS n (fU st.2.1 st.1 s j) ∧ fU st.2.2.1 st.1 dd j ≤ 9 * j
        by_cases y : j = st.1
        · rw [y, fU_at, fU_at]; exact ⟨hs, hd⟩
        · rw [fU_ne y, fU_ne y]; exact h.2.1 j (by omega)
      · have hj : j < st.1 + 1 := hj
        have hk : k < st.1 + 1 := hk
        have e : fU st.2.1 st.1 s j = fU st.2.1 st.1 s k := e
        by_cases y : j = st.1
        · by_cases y2 : k = st.1
          · omega
          · rw [y, fU_at, fU_ne y2] at e; exact absurd e.symm (hno k (by omega))
        · by_cases y2 : k = st.1
          · rw [y2, fU_at, fU_ne y] at e; exact absurd e (hno j (by omega))
          · rw [fU_ne y, fU_ne y2] at e; exact h.2.2 j k (by omega) (by omega) e
    · exact ⟨h, Nat.le_refl _, fun _ _ => rfl, fun _ => rfl⟩
/-- days that stand lower than what comes stay -/
theorem plCm_d {n : Nat} {st : PSt} {s : Sit} {dd k : Nat} (h : plW n st) (hk : k < st.1) (hd : st.2.2.1 k ≤ dd) : (plCm st s dd).2.2.1 k = st.2.2.1 k := by
  by_cases hc : ∃ j, j < st.1 ∧ st.2.1 j = s
  · obtain ⟨j, hj, e⟩ := hc
    rw [plCm_f h hj e]
    show fU st.2.2.1 j _ k = _
    by_cases z : k = j
    · subst z; rw [fU_at]; exact Nat.min_eq_left hd
    · rw [fU_ne z]
  · rw [plCm_n (fun j hj e => hc ⟨j, hj, e⟩)]
    split
    · exact fU_ne (by omega)
    · rfl
