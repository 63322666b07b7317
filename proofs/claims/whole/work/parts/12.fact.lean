theorem am_find_mem : ∀ {t : List am_Row} {pc : Nat} {x : Instr × Nat × Nat × Nat × Int}, am_find t pc = some x → (pc, x) ∈ t
  | [], _, _, h => by cases h
  | r :: t, pc, x, h => by
    unfold am_find at h
    cases hb : Nat.beq r.1 pc with
    | true =>
      rw [hb] at h
      have e1 : r.1 = pc := Nat.eq_of_beq_eq_true hb
      have e2 : r.2 = x := Option.some.inj h
      rw [← e1, ← e2]
      exact List.mem_cons_self
    | false =>
      rw [hb] at h
      exact List.mem_cons_of_mem _ (am_find_mem h)
theorem am_at_mem {e : am_E} {pc : Nat} {x : Instr × Nat × Nat × Nat × Int} (h : am_at e pc = some x) : (pc, x) ∈ am_rows e := am_find_mem h
theorem am_dg {e : am_E} (ho : am_ok1 e = true) {pc : Nat} {i : Instr} {n a b : Nat} {v : Int} (h : am_at e pc = some (i, n, a, b, v)) : decode e.2.1 pc = .ok (i, n) := by
  unfold am_ok1 at ho
  rw [Bool.and_eq_true] at ho
  have h1 := List.all_eq_true.mp ho.1 _ (am_at_mem h)
  exact of_decide_eq_true h1
theorem am_lk_at {e : am_E} (ho : am_ok1 e = true) {pc : Nat} {x : Instr × Nat × Nat × Nat × Int} (h : am_at e pc = some x) {p : am_Row → Bool} (hp : am_lk e = (am_rows e).all p) : p (pc, x) = true := by
  unfold am_ok1 at ho
  rw [Bool.and_eq_true, hp] at ho
  exact List.all_eq_true.mp ho.2 _ (am_at_mem h)
theorem am_any4 {l : List ((Nat × Nat × Nat × Nat) × Nat)} {a b c d : Nat} (h : l.any (fun q => Nat.beq q.1.1 a && (Nat.beq q.1.2.1 b && (Nat.beq q.1.2.2.1 c && Nat.beq q.1.2.2.2 d))) = true) : ∃ p, ((a, b, c, d), p) ∈ l := by
  obtain ⟨q, hq, hb⟩ := List.any_eq_true.mp h
  simp only [Bool.and_eq_true] at hb
  obtain ⟨h1, h2, h3, h4⟩ := hb
  obtain ⟨⟨q1, q2, q3, q4⟩, p⟩ := q
  exact ⟨p, by rw [← Nat.eq_of_beq_eq_true h1, ← Nat.eq_of_beq_eq_true h2, ← Nat.eq_of_beq_eq_true h3, ← Nat.eq_of_beq_eq_true h4]; exact hq⟩
theorem am_any4i {l : List ((Nat × Nat × Nat × Int) × Nat)} {a b c : Nat} {d : Int} (h : l.any (fun q => Nat.beq q.1.1 a && (Nat.beq q.1.2.1 b && (Nat.beq q.1.2.2.1 c && decide (q.1.2.2.2 = d)))) = true) : ∃ p, ((a, b, c, d), p) ∈ l := by
  obtain ⟨q, hq, hb⟩ := List.any_eq_true.mp h
  simp only [Bool.and_eq_true, decide_eq_true_eq] at hb
  obtain ⟨h1, h2, h3, h4⟩ := hb
  obtain ⟨⟨q1, q2, q3, q4⟩, p⟩ := q
  exact ⟨p, by rw [← Nat.eq_of_beq_eq_true h1, ← Nat.eq_of_beq_eq_true h2, ← Nat.eq_of_beq_eq_true h3, ← h4]; exact hq⟩
theorem am_any3i {l : List ((Nat × Nat × Int) × Nat)} {a b : Nat} {d : Int} (h : l.any (fun q => Nat.beq q.1.1 a && (Nat.beq q.1.2.1 b && decide (q.1.2.2 = d))) = true) : ∃ p, ((a, b, d), p) ∈ l := by
  obtain ⟨q, hq, hb⟩ := List.any_eq_true.mp h
  simp only [Bool.and_eq_true, decide_eq_true_eq] at hb
  obtain ⟨h1, h2, h4⟩ := hb
  obtain ⟨⟨q1, q2, q4⟩, p⟩ := q
  exact ⟨p, by rw [← Nat.eq_of_beq_eq_true h1, ← Nat.eq_of_beq_eq_true h2, ← h4]; exact hq⟩
/-- a field's row: the link, the place, the kind -/
theorem am_gf {e : am_E} (ho : am_ok1 e = true) {pc i n c f : Nat} {v : Int} (h : am_at e pc = some (.getfield i, n, c, f, v)) : am_flc (am_own e, i, c, f) ∈ lw_g ∧ (am_fk c)[f]?.map (fun k => (k : Int)) = some v := by
  have h1 := am_lk_at ho h rfl
  simp only [Bool.and_eq_true, decide_eq_true_eq] at h1
  obtain ⟨p, hp⟩ := am_any4 h1.1
  exact ⟨lw_g_at (of_decide_eq_true (List.all_eq_true.mp am_flz_ok _ hp)) rfl, h1.2⟩
theorem am_pf {e : am_E} (ho : am_ok1 e = true) {pc i n c f : Nat} {v : Int} (h : am_at e pc = some (.putfield i, n, c, f, v)) : am_flc (am_own e, i, c, f) ∈ lw_g ∧ (am_fk c)[f]?.map (fun k => (k : Int)) = some v ∧ ((am_T c f).2.2.2 = false ∨ (e.1.name = "<init>" ∧ am_own e = c)) := by
  have h1 := am_lk_at ho h rfl
  simp only [Bool.and_eq_true, decide_eq_true_eq, Bool.or_eq_true, Bool.not_eq_true', beq_iff_eq] at h1
  obtain ⟨p, hp⟩ := am_any4 h1.1
  exact ⟨lw_g_at (of_decide_eq_true (List.all_eq_true.mp am_flz_ok _ hp)) rfl, h1.2.1, h1.2.2.imp id (fun z => ⟨z.1, Nat.eq_of_beq_eq_true z.2⟩)⟩
theorem am_mem_ml {r : Nat × Nat × Nat × Int} {p : Nat} (hp : (r, p) ∈ am_mlz) : am_mlc r ∈ lw_tbl := List.mem_of_getElem? (of_decide_eq_true (List.all_eq_true.mp am_mlz_ok _ hp))
theorem am_iv {e : am_E} (ho : am_ok1 e = true) {pc i n c f : Nat} {v : Int} (h : am_at e pc = some (.invokevirtual i, n, c, f, v)) (hv : v ≠ 99) : ∃ p, ((am_own e, i, c, v), p) ∈ am_mlz := by
  have h1 := am_lk_at ho h rfl
  simp only [Bool.or_eq_true, decide_eq_true_eq] at h1
  rcases h1 with h1 | h1
  · exact am_any4i h1
  · exact absurd h1 hv
theorem am_is {e : am_E} (ho : am_ok1 e = true) {pc i n c f : Nat} {v : Int} (h : am_at e pc = some (.invokespecial i, n, c, f, v)) : ∃ p, ((am_own e, i, c, v), p) ∈ am_mlz := am_any4i (am_lk_at ho h rfl)
theorem am_it {e : am_E} (ho : am_ok1 e = true) {pc i n c f : Nat} {v : Int} (h : am_at e pc = some (.invokestatic i, n, c, f, v)) : ∃ p, ((am_own e, i, c, v), p) ∈ am_mlz := am_any4i (am_lk_at ho h rfl)
theorem am_ldcI {e : am_E} (ho : am_ok1 e = true) {pc i n a : Nat} {v : Int} (h : am_at e pc = some (.ldc i, n, a, 0, v)) : Cond.constant (am_cn (am_own e)) i (Int32.ofInt v) ∈ lw_g := by
  have h1 := am_lk_at ho h rfl
  obtain ⟨p, hp⟩ := am_any3i h1
  exact lw_g_at (of_decide_eq_true (List.all_eq_true.mp am_ilz_ok _ hp)) rfl
theorem am_ldcW {e : am_E} (ho : am_ok1 e = true) {pc i n a b : Nat} {v : Int} (h : am_at e pc = some (.ldc_w i, n, a, b, v)) : Cond.constant (am_cn (am_own e)) i (Int32.ofInt v) ∈ lw_g := by
  have h1 := am_lk_at ho h rfl
  obtain ⟨p, hp⟩ := am_any3i h1
  exact lw_g_at (of_decide_eq_true (List.all_eq_true.mp am_ilz_ok _ hp)) rfl
theorem am_ldcL {e : am_E} (ho : am_ok1 e = true) {pc i n a b : Nat} {v : Int} (h : am_at e pc = some (.ldc2_w i, n, a, b, v)) : Cond.constantLong (am_cn (am_own e)) i (Int64.ofInt v) ∈ lw_g := by
  have h1 := am_lk_at ho h rfl
  obtain ⟨p, hp⟩ := am_any3i h1
  exact lw_g_at (of_decide_eq_true (List.all_eq_true.mp am_jlz_ok _ hp)) rfl
theorem am_ldcT {e : am_E} (ho : am_ok1 e = true) {pc i n a : Nat} {v : Int} (h : am_at e pc = some (.ldc i, n, a, 1, v)) : ∃ p, ((am_own e, i, a), p) ∈ am_slz := by
  have h1 := am_lk_at ho h rfl
  obtain ⟨q, hq, hb⟩ := List.any_eq_true.mp (show am_slz.any (fun q => Nat.beq q.1.1 (am_own e) && (Nat.beq q.1.2.1 i && Nat.beq q.1.2.2 a)) = true from h1)
  simp only [Bool.and_eq_true] at hb
  obtain ⟨h2, h3, h4⟩ := hb
  obtain ⟨⟨q1, q2, q4⟩, p⟩ := q
  exact ⟨p, by rw [← Nat.eq_of_beq_eq_true h2, ← Nat.eq_of_beq_eq_true h3, ← Nat.eq_of_beq_eq_true h4]; exact hq⟩
theorem am_nw {e : am_E} (ho : am_ok1 e = true) {pc i n c f : Nat} {v : Int} (h : am_at e pc = some (.new i, n, c, f, v)) : Cond.classLink (am_cn (am_own e)) i (am_cn c) ∈ lw_g ∧ am_N c = f := by
  have h1 := am_lk_at ho h rfl
  obtain ⟨q, hq, hb⟩ := List.any_eq_true.mp h1
  simp only [Bool.and_eq_true] at hb
  obtain ⟨h1, h2, h3, h4, h5⟩ := hb
  obtain ⟨⟨q1, q2, q3, q4⟩, p⟩ := q
  have hq' : ((am_own e, i, c, 0), p) ∈ am_klz := by rw [← Nat.eq_of_beq_eq_true h1, ← Nat.eq_of_beq_eq_true h2, ← Nat.eq_of_beq_eq_true h3, ← Nat.eq_of_beq_eq_true h4]; exact hq
  exact ⟨lw_g_at (of_decide_eq_true (List.all_eq_true.mp am_klz_ok _ hq')) rfl, Nat.eq_of_beq_eq_true h5⟩
theorem am_aw {e : am_E} (ho : am_ok1 e = true) {pc i n c f : Nat} {v : Int} (h : am_at e pc = some (.anewarray i, n, c, f, v)) : Cond.classLink (am_cn (am_own e)) i (am_cn c) ∈ lw_g := by
  obtain ⟨p, hp⟩ := am_any4 (am_lk_at ho h rfl)
  exact lw_g_at (of_decide_eq_true (List.all_eq_true.mp am_klz_ok _ hp)) rfl
theorem am_mw {e : am_E} (ho : am_ok1 e = true) {pc i j n c f : Nat} {v : Int} (h : am_at e pc = some (.multianewarray i j, n, c, f, v)) : Cond.classLink (am_cn (am_own e)) i "[[I" ∈ lw_g := by
  have h1 := am_lk_at ho h rfl
  obtain ⟨q, hq, hb⟩ := List.any_eq_true.mp h1
  simp only [Bool.and_eq_true] at hb
  obtain ⟨h1, h2, h4⟩ := hb
  obtain ⟨⟨q1, q2, q3, q4⟩, p⟩ := q
  have hq' : ((am_own e, i, q3, 2), p) ∈ am_klz := by rw [← Nat.eq_of_beq_eq_true h1, ← Nat.eq_of_beq_eq_true h2, ← Nat.eq_of_beq_eq_true h4]; exact hq
  exact lw_g_at (of_decide_eq_true (List.all_eq_true.mp am_klz_ok _ hq')) rfl
/-- what the tables say of a method, by its number -/
theorem am_of {i : Nat} {e : am_E} (he : am_all[i]? = some e) : am_ok1 e = true ∧ Cond.code e.1 e.2.1 (am_maxL e) (am_ret e) ∈ lw_g ∧ Cond.initialized e.1.cls ∈ lw_g ∧ e.1.cls = am_cn (am_own e) ∧ (∃ n, am_pn[i]? = some n ∧ (parseMethodDescriptor e.1.desc).map (fun d => d.parameters.length) = some n) ∧ plainFor e.1 = true ∧ (e.1.cls ≠ "java/lang/invoke/MethodHandle" ∧ e.1.cls ≠ "java/lang/invoke/VarHandle") ∧ am_maxL e ≤ 30 ∧ am_nam i = e.1 ∧ ∃ p, am_mp[i]? = some p := by
  have hl : i < 226 := (show am_all.length = 226 from by decide +kernel) ▸ (List.getElem?_eq_some_iff.mp he).1
  have h1 := List.all_eq_true.mp am_mo_ok i (List.mem_range.mpr hl)
  unfold am_mo at h1
  rw [he] at h1
  cases hp : am_mp[i]? with
  | none => rw [hp] at h1; cases h1
  | some p =>
    rw [hp] at h1
    cases hn : am_pn[i]? with
    | none => rw [hn] at h1; cases h1
    | some n =>
      rw [hn] at h1
      simp only [Bool.and_eq_true, decide_eq_true_eq] at h1
      obtain ⟨g1, g2, g3, g4, g5, g6⟩ := h1
      refine ⟨am_all_ok e (List.mem_of_getElem? he), lw_g_at g1 rfl, by rw [g3]; exact lw_g_at g2 rfl, g3, ⟨n, rfl, g4⟩, g5, ⟨g6.1, g6.2.1⟩, g6.2.2, ?_, p, rfl⟩
      show (am_all.getD i am_nil).1 = e.1
      rw [List.getD_eq_getElem?_getD, he]
      rfl
