def R_law : String := "LastLoadsLaw"
def lw_P (b : Addr) (xs : List Int32) (args : Array Value) (s : State) : Prop := args = #[.ref b] ∧ s.IntsAt b xs ∧ xs.length ≤ 3072 ∧ (Jvm.Cond.and given_1 narrow_1).before args s = true
def lw_Q (_ : Array Value) (s : State) (o : Outcome) (t : State) : Prop := o = .returned (some (.int 1)) ∧ Framed s o t [] 600000 7302250
def lw_Z (below : List Frame) (a : Array Value) (s : State) : State → Prop := fun t => ∃ o, t.status = .running ∧ Ended t below o ∧ lw_Q a s o t
/-- the law's own end, with 1 on the stack, nothing written that was there before, its room as the claim has it -/
theorem lw_ret {p : Program} {l : Launch} {e : Env} {s : State} {m : MethodId} {below : List Frame} {meth : Method} {c : Code} {b : Nat} (hx : p.tables.exec = Jvm.exec) (hb : c.code = code) (hr : meth.sig.returnType = ret) (hlocks : meth.locks = false) {pc : Nat} {H : Heap} {ls : Array Slot} (hdg : decode code pc = .ok (.ireturn, 1)) : W p l e room_1 s m #[Value.ref b] below meth c H [] 600000 7302250 (lw_Z below #[Value.ref b] s) (F0 m pc ls [.int 1]) := by
  intro T hT X
  obtain ⟨fs, hret, hrun, hended, hW, hframe⟩ := X.leave (v := some (.int 1)) (hlocks := hlocks) (fun h => by rw [hr] at h; cases h)
  have hmeth' : T.vm.method? m = some meth := X.method'
  refine ⟨T.setFrames fs, ?_, .returned (some (.int 1)), hrun, hended, rfl, ⟨_, rfl⟩, hW, hframe⟩
  jvm_step X.here [X.here.top, hx, hb, hdg, hmeth', hr, ret, narrow_b1]
  (try refine ⟨rfl, ?_⟩); (try refine ⟨rfl, ?_⟩)
  first | (intro acts; rw [hret _ acts rfl rfl rfl]) | rw [hret _ _ rfl rfl rfl]
  exact Steps.refl _
/-- what holds at the law's entry: the machine, the code, the tables' words (any of lw_tbl by 'hts w (by decide +kernel)'), the script of L ints xs at the cell b, what the Statement gives of the start (any of its parts by flat_of_before) -/
def lw_At (p : Program) (s : State) (m : MethodId) (meth : Method) (c : Code) (b L : Nat) (xs : Nat → Int32) : Prop :=
  p.tables.exec = Jvm.exec ∧ c.code = code ∧ meth.sig.returnType = ret ∧ c.maxLocals = 4 ∧ s.vm.findClass R_law = some m.cls ∧ (∀ w ∈ lw_tbl, w.before #[Value.ref b] s = true) ∧ va_X b L xs s s.heap ∧ b < s.heap.size ∧ meth.locks = false ∧ (Jvm.Cond.and given_1 narrow_1).before #[Value.ref b] s = true
-- ===== YOUR PART BEGINS =====
/-! ===== the start of the law, for the abstract machine ===== -/
def am_sop : List (Nat × Nat) := [(2, 36), (2, 60), (2, 69), (2, 78), (7, 51), (7, 60), (7, 90), (7, 131), (7, 84), (7, 87)]
def am_tm (i : Nat) : Term := .string (am_cn (am_sop.getD i (0, 0)).1) (am_sop.getD i (0, 0)).2
def am_flat : List Cond := flatC (Jvm.Cond.and given_1 narrow_1)
theorem am_f_slz : am_slz.all (fun q => decide (2 ≤ q.1.2.2 ∧ q.1.2.2 < 12 ∧ am_sop[q.1.2.2 - 2]? = some (q.1.1, q.1.2.1))) = true := by decide +kernel
theorem am_f_ex : (List.range 10).all (fun i => decide (Cond.exactly (am_tm i) "java/lang/String" ∈ am_flat)) = true := by decide +kernel
theorem am_f_co : (List.range 10).all (fun i => decide (Cond.eq (.field (am_tm i) "java/lang/String" "coder" "B") (.int 0) ∈ am_flat)) = true := by decide +kernel
theorem am_f_ar : (List.range 10).all (fun i => decide (Cond.arrayOf (.field (am_tm i) "java/lang/String" "value" "[B") .byte ∈ am_flat)) = true := by decide +kernel
theorem am_f_le : (List.range 10).all (fun i => decide (Cond.eq (.length (.field (am_tm i) "java/lang/String" "value" "[B")) (.int (Int32.ofNat (am_sln.getD i 0))) ∈ am_flat)) = true := by decide +kernel
theorem am_f_el : (List.range 10).all (fun i => (List.range (am_sln.getD i 0)).all (fun j => decide (Cond.eq (.elem (.field (am_tm i) "java/lang/String" "value" "[B") (.int (Int32.ofNat j))) (.int ((am_sby.getD i []).getD j 0)) ∈ am_flat))) = true := by decide +kernel
theorem am_f_ne : (List.range 10).all (fun i => (List.range 10).all (fun j => decide (i = j) || (decide (Cond.not (Cond.eq (am_tm i) (am_tm j)) ∈ am_flat) || decide (Cond.not (Cond.eq (am_tm j) (am_tm i)) ∈ am_flat)))) = true := by decide +kernel
theorem am_f_cs : Cond.eq (.static "java/lang/String" "COMPACT_STRINGS" "Z") (.int 1) ∈ am_flat := by decide +kernel
theorem am_f_si : Cond.isRef (.static "jdk/internal/util/Preconditions" "SIOOBE_FORMATTER" "Ljava/util/function/BiFunction;") ∈ am_flat := by decide +kernel
theorem am_t_ls1 : Cond.laysStatic "java/lang/String" "COMPACT_STRINGS" "Z" ∈ lw_tbl := List.mem_of_getElem? (i := 581) (by decide +kernel)
theorem am_t_ls2 : Cond.laysStatic "jdk/internal/util/Preconditions" "SIOOBE_FORMATTER" "Ljava/util/function/BiFunction;" ∈ lw_tbl := List.mem_of_getElem? (i := 597) (by decide +kernel)
theorem am_t_ao5 : Cond.arrayOver (.object "LastLoads$Roads") ∈ lw_tbl := by decide +kernel
theorem am_t_ao6 : Cond.arrayOver (.object "LastLoads$Rule") ∈ lw_tbl := by decide +kernel
theorem am_t_ao8 : Cond.arrayOver (.object "LastLoads$State") ∈ lw_tbl := by decide +kernel
theorem am_t_aoa : Cond.arrayOver (.array .int) ∈ lw_tbl := by decide +kernel
theorem lw_g_tbl {w : Cond} (h : w ∈ lw_g) : w ∈ lw_tbl := (List.mem_filter.mp h).1
