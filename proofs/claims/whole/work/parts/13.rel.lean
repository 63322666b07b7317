/-! ===== THE ABSTRACT MACHINE OVER THE MACHINE: what a memory is in a heap ===== -/
def am_o (ad : Nat → Nat) (x : Nat) : Option Nat := if x = 0 then none else some (ad x)
def am_tv (ad : Nat → Nat) : Value → Value
  | .ref x => va_rf (am_o ad x)
  | v => v
def am_nn : Value → Bool
  | .null => false
  | _ => true
def am_as (ad : Nat → Nat) (ls : List Value) : List (Nat × Value) := (List.range ls.length).filterMap (fun i => match ls[i]? with
  | some v => bif am_nn v then some (i, am_tv ad v) else none
  | none => none)
theorem am_as_mem {ad : Nat → Nat} {ls : List Value} {q : Nat × Value} : q ∈ am_as ad ls ↔ ∃ v, ls[q.1]? = some v ∧ am_nn v = true ∧ q.2 = am_tv ad v := by
  unfold am_as
  rw [List.mem_filterMap]
  constructor
  · rintro ⟨i, hi, h⟩
    cases hv : ls[i]? with
    | none => rw [hv] at h; cases h
    | some v =>
      rw [hv] at h
      cases hn : am_nn v with
      | false => simp [hn] at h
      | true =>
        simp only [hn, cond_true, Option.some.injEq] at h
        subst h
        exact ⟨v, hv, hn, rfl⟩
  · rintro ⟨v, h1, h2, h3⟩
    refine ⟨q.1, List.mem_range.mpr (List.getElem?_eq_some_iff.mp h1).1, ?_⟩
    simp only [h1, h2, cond_true]
    rw [← h3]
theorem am_has_sub {ls : Array Slot} {n : Nat} {l l' : List (Nat × Value)} (h : lv_has ls n l) (hs : ∀ q ∈ l', q ∈ l) : lv_has ls n l' := ⟨h.1, h.2.1, fun q hq => h.2.2 q (hs q hq)⟩
theorem am_lget {ad : Nat → Nat} {lsv : Array Slot} {n : Nat} {ls : List Value} (h : lv_has lsv n (am_as ad ls)) {i : Nat} {v : Value} (hv : ls[i]? = some v) (hn : am_nn v = true) : lsv[i]? = some (.val (am_tv ad v)) := h.2.2 (i, am_tv ad v) (am_as_mem.mpr ⟨v, hv, hn, rfl⟩)
theorem am_cat2 {ad : Nat → Nat} {v : Value} (h : (am_tv ad v).category = 2) : (∃ x, v = .long x) ∨ ∃ x, v = .double x := by
  cases v with
  | long x => exact Or.inl ⟨x, rfl⟩
  | double x => exact Or.inr ⟨x, rfl⟩
  | ref x =>
    exfalso
    unfold am_tv am_o va_rf at h
    by_cases hx : x = 0 <;> simp [hx, Value.category] at h
  | _ => simp [am_tv, Value.category] at h
theorem am_nl_no {ad : Nat → Nat} {ls : List Value} {i j : Nat} {v : Value} (h : am_nl ls i = true) (hj : j + 1 = i) (hv : ls[j]? = some v) : ¬ (am_tv ad v).category = 2 := by
  subst hj
  intro hc
  unfold am_nl at h
  rcases am_cat2 hc with ⟨x, rfl⟩ | ⟨x, rfl⟩ <;> simp [hv] at h
theorem am_set1 {ad : Nat → Nat} {ls : List Value} {i : Nat} {w : Value} (hn : am_nl ls i = true) : ∀ q ∈ am_as ad (ls.set i w), q ∈ (i, am_tv ad w) :: (am_as ad ls).filter (fun q => !(q.1 == i) && !(q.1 + 1 == i && q.2.category == 2)) := by
  intro q hq
  obtain ⟨v, h1, h2, h3⟩ := am_as_mem.mp hq
  by_cases hi : q.1 = i
  · have hl : i < ls.length := by
      have := (List.getElem?_eq_some_iff.mp h1).1
      rw [List.length_set] at this
      omega
    rw [hi, List.getElem?_set_self hl] at h1
    cases h1
    exact List.mem_cons.mpr (Or.inl (Prod.ext hi h3))
  · rw [List.getElem?_set_ne (Ne.symm hi)] at h1
    refine List.mem_cons_of_mem _ (List.mem_filter.mpr ⟨am_as_mem.mpr ⟨v, h1, h2, h3⟩, ?_⟩)
    simp only [Bool.and_eq_true, Bool.not_eq_true', beq_eq_false_iff_ne, ne_eq, hi, not_false_eq_true, true_and, Bool.and_eq_false_iff]
    by_cases h5 : q.1 + 1 = i
    · exact Or.inr (by rw [h3]; exact am_nl_no hn h5 h1)
    · exact Or.inl h5
theorem am_set2 {ad : Nat → Nat} {ls : List Value} {i : Nat} {w : Value} (hn : am_nl ls i = true) : ∀ q ∈ am_as ad ((ls.set i w).set (i + 1) .null), q ∈ (i, am_tv ad w) :: (am_as ad ls).filter (fun q => !(q.1 == i) && (!(q.1 == i + 1) && !(q.1 + 1 == i && q.2.category == 2))) := by
  intro q hq
  obtain ⟨v, h1, h2, h3⟩ := am_as_mem.mp hq
  have h9 : q.1 ≠ i + 1 := by
    intro h9
    have hl : i + 1 < (ls.set i w).length := by
      have := (List.getElem?_eq_some_iff.mp h1).1
      rw [List.length_set] at this
      omega
    rw [h9, List.getElem?_set_self hl] at h1
    cases h1
    cases h2
  rw [List.getElem?_set_ne (Ne.symm h9)] at h1
  by_cases hi : q.1 = i
  · have hl : i < ls.length := by
      have := (List.getElem?_eq_some_iff.mp h1).1
      rw [List.length_set] at this
      omega
    rw [hi, List.getElem?_set_self hl] at h1
    cases h1
    exact List.mem_cons.mpr (Or.inl (Prod.ext hi h3))
  · rw [List.getElem?_set_ne (Ne.symm hi)] at h1
    refine List.mem_cons_of_mem _ (List.mem_filter.mpr ⟨am_as_mem.mpr ⟨v, h1, h2, h3⟩, ?_⟩)
    simp only [Bool.and_eq_true, Bool.not_eq_true', beq_eq_false_iff_ne, ne_eq, hi, h9, not_false_eq_true, true_and, Bool.and_eq_false_iff]
    by_cases h5 : q.1 + 1 = i
    · exact Or.inr (by rw [h3]; exact am_nl_no hn h5 h1)
    · exact Or.inl h5
/-- a field's value, by its kind -/
def am_fv (ad : Nat → Nat) (I : Nat → Int32) (L : Nat → Int64) (R : Nat → Nat) (kd k : Nat) : Value := if kd = 1 then .long (L k) else if kd = 2 then va_rf (am_o ad (R k)) else .int (I k)
def am_fs (ad : Nat → Nat) (c : Nat) (I : Nat → Int32) (L : Nat → Int64) (R : Nat → Nat) : List Value := (List.range (am_N c)).map (fun k => am_fv ad I L R ((am_fk c).getD k 0) k)
def am_ar (ad : Nat → Nat) (t n : Nat) (I : Nat → Int32) (L : Nat → Int64) (R : Nat → Nat) : vp_A := (n, if t < 3 then .inl I else if t = 3 then .inr (.inl L) else .inr (.inr (.inr (.inr (fun k => am_o ad (R k))))))
def am_cell (ad : Nat → Nat) (cy : Nat → ClassId) (I : am_I) (L : am_L) (G : am_G) (a : Nat) : va_E := match G.2.1 a with
  | .inl c => .inr (c, am_fs ad c (I a) (L a) (G.1 a))
  | .inr (t, n) => .inl (cy t, am_ar ad t n (I a) (L a) (G.1 a))
def am_hp (D : va_G) (ad : Nat → Nat) (cy : Nat → ClassId) (I : am_I) (L : am_L) (G : am_G) (H : Heap) : Prop := ∀ a, 12 ≤ a → a < G.2.2 → va_at D am_cl (ad a, am_cell ad cy I L G a) H
def am_tys (cy : Nat → ClassId) : List (ClassId × FieldType) := [(cy 0, .int), (cy 1, .byte), (cy 2, .boolean), (cy 3, .long), (cy 4, .object "LastLoads$Roads"), (cy 5, .object "LastLoads$Rule"), (cy 6, .object "LastLoads$State"), (cy 7, .array .int)]
/-- the words of the start that a call changes in its form alone: links within the nest, arrays over classes, the String constants -/
def am_Nx (ad : Nat → Nat) (U : State) : Prop :=
  (∀ r p, (r, p) ∈ am_mlz → r.2.2.2 = 4 → va_Nw (am_mlc r) U) ∧ (∀ c, c < 12 → (c = 5 ∨ c = 6 ∨ c = 8) → va_AO (am_cn c) U) ∧ (Cond.arrayOver (.array .int)).before #[] U = true ∧
  (∀ r p, (r, p) ∈ am_slz → vk_R (am_cn r.1) r.2.1 (am_stx r.2.2) (ad r.2.2) U)
/-- what the shapes must be: a cell that is told lies in the heap; the script is number 1 -/
def am_wf (Lx : Nat) (G : am_G) : Prop := (∀ a c, G.2.1 a = .inl c → 12 ≤ a ∧ a < G.2.2 ∧ c < 12) ∧ ∀ a t N, G.2.1 a = .inr (t, N) → (t < 8 → 12 ≤ a ∧ a < G.2.2) ∧ (t = 8 → a = 1 ∧ N = Lx)
/-- a method's fixed surroundings -/
def am_Cx (ad : Nat → Nat) (cy : Nat → ClassId) (D : va_G) (base Lx : Nat) (xs : Nat → Int32) (E : am_E) (p : Program) (R : Room) (s : State) (m : MethodId) (args : Array Value) (meth : Method) (c : Code) : Prop :=
  p.tables.exec = Jvm.exec ∧ c.code = E.2.1 ∧ c.maxLocals = am_maxL E ∧ s.vm.findClass (am_cn (am_own E)) = some m.cls ∧ (∀ w ∈ lw_g, w.before args s = true) ∧ (E.1.name = "<init>" → meth.name = "<init>") ∧ am_ok1 E = true ∧ va_K D am_cl (am_tys cy) s ∧ (∀ i, ad (i + 12) = base + i) ∧ base ≤ s.heap.size ∧ am_Nx ad s ∧
  va_X (ad 1) Lx xs s s.heap ∧ ad 1 < base ∧ 1 ≤ R.frames ∧ 60 ≤ R.locals ∧ R.cells = am_mc E ∧ R.slots = am_ms E
/-- memory and locals as they are in a heap and a frame -/
def am_In (ad : Nat → Nat) (cy : Nat → ClassId) (D : va_G) (base Lx : Nat) (xs : Nat → Int32) (E : am_E) (s : State) (ls : List Value) (I : am_I) (L : am_L) (G : am_G) (H : Heap) (locs : List Loc) (lsv : Array Slot) : Prop :=
  H.size + 12 = base + G.2.2 ∧ 12 ≤ G.2.2 ∧ am_hp D ad cy I L G H ∧ va_S (fun q : Nat => base ≤ q) s.heap H locs ∧ am_wf Lx G ∧ (∀ j, j < Lx → I 1 j = xs j) ∧ lv_has lsv (am_maxL E) (am_as ad ls) ∧ ls.length = am_maxL E
def am_Xs (ad : Nat → Nat) (cy : Nat → ClassId) (D : va_G) (base Lx : Nat) (xs : Nat → Int32) (E : am_E) (p : Program) (l : Launch) (v : Env) (R : Room) (s : State) (m : MethodId) (args : Array Value) (below : List Frame) (meth : Method) (c : Code) (QW : State → Prop) : am_X := fun pc ls st I L G k n =>
  ∀ H locs lsv, am_In ad cy D base Lx xs E s ls I L G H locs lsv → W p l v R s m args below meth c H locs k n QW (F0 m pc lsv (st.map (am_tv ad)))
theorem am_ad {ad : Nat → Nat} {base : Nat} (had : ∀ i, ad (i + 12) = base + i) {a : Nat} (h : 12 ≤ a) : ad a + 12 = base + a := by
  have := had (a - 12)
  rw [show a - 12 + 12 = a by omega] at this
  omega
theorem am_inj {ad : Nat → Nat} {base : Nat} (had : ∀ i, ad (i + 12) = base + i) {a b : Nat} (ha : 12 ≤ a) (hb : 12 ≤ b) (h : ad a = ad b) : a = b := by
  have h1 := am_ad had ha
  have h2 := am_ad had hb
  omega
theorem am_tvr (ad : Nat → Nat) {a : Nat} (h : 12 ≤ a) : am_tv ad (.ref a) = .ref (ad a) := by
  show va_rf (am_o ad a) = _
  unfold am_o
  rw [if_neg (by omega)]
  rfl
theorem am_one {D : va_G} {cl : List vw_C} {q : Nat × va_E} {H : Heap} (h : va_at D cl q H) : va_P D cl [q] H := fun k x hx => by
  have h0 : k < 1 := (List.getElem?_eq_some_iff.mp hx).1
  rw [show k = 0 by omega] at hx
  cases hx
  exact h
theorem am_hp_set {D : va_G} {ad : Nat → Nat} {cy : Nat → ClassId} {I I' : am_I} {L L' : am_L} {G G' : am_G} {H H1 : Heap} {base a : Nat} (had : ∀ i, ad (i + 12) = base + i) (h : am_hp D ad cy I L G H) (ha : 12 ≤ a) (he : va_at D am_cl (ad a, am_cell ad cy I' L' G' a) H1) (oq : ∀ q, q ≠ ad a → H1[q]? = H[q]?) (hn : G'.2.2 = G.2.2) (ho : ∀ b, b ≠ a → am_cell ad cy I' L' G' b = am_cell ad cy I L G b) : am_hp D ad cy I' L' G' H1 := by
  intro b h1 h2
  by_cases hb : b = a
  · subst hb; exact he
  · rw [ho b hb]
    exact (h b h1 (by omega)).kept (oq _ (fun z => hb (am_inj had h1 ha z)))
theorem am_fs_get {ad : Nat → Nat} {c k kd : Nat} {I : Nat → Int32} {L : Nat → Int64} {R : Nat → Nat} (h : (am_fk c)[k]? = some kd) : (am_fs ad c I L R)[k]? = some (am_fv ad I L R kd k) := by
  unfold am_fs
  have hl : k < am_N c := (List.getElem?_eq_some_iff.mp h).1
  rw [List.getElem?_map, List.getElem?_range hl]
  show some (am_fv ad I L R ((am_fk c).getD k 0) k) = _
  rw [List.getD_eq_getElem?_getD, h]
  rfl
theorem am_fs_len {ad : Nat → Nat} {c : Nat} {I : Nat → Int32} {L : Nat → Int64} {R : Nat → Nat} : (am_fs ad c I L R).length = am_N c := by
  unfold am_fs
  rw [List.length_map, List.length_range]
theorem am_kd {c k : Nat} {v : Int} {n : Nat} (h : (am_fk c)[k]?.map (fun k => (k : Int)) = some v) (hv : v = (n : Int)) : (am_fk c)[k]? = some n := by
  cases hk : (am_fk c)[k]? with
  | none => rw [hk] at h; cases h
  | some j =>
    rw [hk] at h
    have h1 : (j : Int) = v := Option.some.inj h
    rw [hv] at h1
    have : j = n := by omega
    rw [this]
theorem am_cl_get {c : Nat} (h : c < 12) : am_cl[c]? = some (am_cn c, am_T c, am_N c) := by
  match c, h with
  | 0, _ => rfl
  | 1, _ => rfl
  | 2, _ => rfl
  | 3, _ => rfl
  | 4, _ => rfl
  | 5, _ => rfl
  | 6, _ => rfl
  | 7, _ => rfl
  | 8, _ => rfl
  | 9, _ => rfl
  | 10, _ => rfl
  | 11, _ => rfl
  | c + 12, h => omega
theorem am_uws_g {c : Nat} (h : c < 12) : ∀ w ∈ u_ws (am_cn c) (am_T c) (am_N c), w ∈ lw_g := by
  intro w hw
  refine lw_g_of (am_uws_in c h w hw) ?_
  unfold u_ws at hw
  obtain ⟨k, -, rfl⟩ := List.mem_map.mp hw
  unfold u_lay
  split <;> rfl
