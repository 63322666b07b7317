def am_nam (i : Nat) : MethodName := (am_all.getD i am_nil).1
def am_mlc (r : Nat × Nat × Nat × Int) : Cond :=
  if r.2.2.2 = 4 then .methodLinkNest (am_cn r.1) r.2.1 (am_nam r.2.2.1) "LastLoads"
  else if r.2.2.2 = 5 then .methodLink (am_cn r.1) r.2.1 objectInit
  else if r.2.2.2 = 6 then .methodLink (am_cn r.1) r.2.1 arraycopyName
  else if r.2.2.2 = 7 then .methodLink (am_cn r.1) r.2.1 ⟨"java/lang/String", "length", "()I"⟩
  else if r.2.2.2 = 8 then .methodLink (am_cn r.1) r.2.1 ⟨"java/lang/String", "charAt", "(I)C"⟩
  else .methodLink (am_cn r.1) r.2.1 (am_nam r.2.2.1)
def am_klc (r : Nat × Nat × Nat × Nat) : Cond := if r.2.2.2 = 2 then .classLink (am_cn r.1) r.2.1 "[[I" else .classLink (am_cn r.1) r.2.1 (am_cn r.2.2.1)
def am_stx : Nat → String := fun x => match x with
  | 2 => "places"
  | 3 => "road"
  | 4 => "carter"
  | 5 => "load"
  | 6 => "bar"
  | 7 => "wipe"
  | 8 => "not"
  | 9 => "road days last kind from to runs all day "
  | 10 => "and"
  | _ => "or"
theorem am_flz_ok : am_flz.all (fun q => decide (lw_tbl[q.2]? = some (am_flc q.1))) = true := by decide +kernel
theorem am_mlz_ok : am_mlz.all (fun q => decide (lw_tbl[q.2]? = some (am_mlc q.1))) = true := by decide +kernel
theorem am_klz_ok : am_klz.all (fun q => decide (lw_tbl[q.2]? = some (am_klc q.1))) = true := by decide +kernel
theorem am_ilz_ok : am_ilz.all (fun q => decide (lw_tbl[q.2]? = some (.constant (am_cn q.1.1) q.1.2.1 (Int32.ofInt q.1.2.2)))) = true := by decide +kernel
theorem am_jlz_ok : am_jlz.all (fun q => decide (lw_tbl[q.2]? = some (.constantLong (am_cn q.1.1) q.1.2.1 (Int64.ofInt q.1.2.2)))) = true := by decide +kernel
theorem am_slz_ok : am_slz.all (fun q => decide (lw_tbl[q.2]? = some (.stringRef (am_cn q.1.1) q.1.2.1 (am_stx q.1.2.2)) ∧ 2 ≤ q.1.2.2 ∧ q.1.2.2 < 12)) = true := by decide +kernel
/-- the words that stay as they are when a method is called -/
def lw_g : List Cond := lw_tbl.filter goodWord
theorem lw_g_good : GoodIn lw_g lw_g := fun w hw => ⟨hw, good_of_word (List.mem_filter.mp hw).2⟩
theorem lw_g_of {w : Cond} (h : w ∈ lw_tbl) (hg : goodWord w = true) : w ∈ lw_g := List.mem_filter.mpr ⟨h, hg⟩
theorem lw_g_at {w : Cond} {i : Nat} (h : lw_tbl[i]? = some w) (hg : goodWord w = true) : w ∈ lw_g := lw_g_of (List.mem_of_getElem? h) hg
def am_pn : List Nat := [1, 2, 2, 2, 1, 2, 4, 2, 4, 2, 2, 0, 3, 0, 1, 5, 5, 1, 6, 1, 3, 1, 1, 2, 2, 1, 1, 1, 2, 2, 1, 5, 2, 2, 1, 4, 1, 1, 3, 1, 1, 1, 3, 1, 0, 0, 4, 1, 1, 1, 1, 2, 2, 0, 2, 1, 0, 0, 1, 1, 1, 0, 1, 0, 0, 0, 0, 1, 1, 4, 0, 1, 1, 1, 1, 1, 0, 0, 1, 0, 1, 0, 2, 0, 1, 1, 1, 3, 0, 0, 5, 1, 0, 0, 1, 2, 2, 2, 2, 2, 1, 3, 4, 2, 4, 2, 0, 1, 1, 2, 2, 2, 1, 3, 1, 1, 1, 3, 0, 3, 2, 1, 1, 5, 1, 2, 0, 1, 1, 1, 0, 2, 0, 2, 1, 1, 1, 1, 0, 0, 0, 0, 0, 0, 0, 0, 1, 1, 2, 1, 1, 1, 1, 0, 0, 0, 0, 1, 1, 0, 3, 3, 1, 1, 1, 1, 1, 2, 2, 2, 1, 1, 1, 2, 2, 2, 2, 2, 5, 4, 4, 4, 2, 2, 1, 1, 1, 2, 1, 3, 3, 4, 2, 4, 0, 0, 2, 1, 2, 0, 1, 2, 2, 3, 0, 0, 1, 0, 1, 1, 2, 2, 0, 2, 2, 1, 1, 3, 1, 1, 1, 2, 2, 2, 2, 1]
/-- what the tables say of a call's method, by the kind of the call -/
def am_co (q : (Nat × Nat × Nat × Int) × Nat) : Bool := match am_mp[q.1.2.2.1]? with
  | some p => if q.1.2.2.2 = 0 then decide (lw_tbl[p.2.1]? = some (.instanceMethod (am_nam q.1.2.2.1))) && decide (lw_tbl[p.2.2.1]? = some (.selects (am_nam q.1.2.2.1).cls (am_nam q.1.2.2.1) (am_nam q.1.2.2.1)))
    else if q.1.2.2.2 = 1 ∨ q.1.2.2.2 = 4 then decide (lw_tbl[p.2.1]? = some (.instanceMethod (am_nam q.1.2.2.1))) && decide ((am_nam q.1.2.2.1).name = "<init>" ∧ am_ret (am_all.getD q.1.2.2.1 am_nil) = none)
    else if q.1.2.2.2 = 2 then decide (lw_tbl[p.2.2.2.1]? = some (.static (am_nam q.1.2.2.1)))
    else true
  | none => false
theorem am_co_ok : am_mlz.all am_co = true := by decide +kernel
/-- the number of the call's arguments is the method's -/
def am_nk (e : am_E) : Bool := (am_rows e).all (fun r => match r.2.1 with
  | .invokevirtual _ => Nat.ble 5 r.2.2.2.2.2.toNat || decide (am_pn[r.2.2.2.1]? = some r.2.2.2.2.1)
  | .invokespecial _ => decide (r.2.2.2.2.2 = 5) || decide (am_pn[r.2.2.2.1]? = some r.2.2.2.2.1)
  | .invokestatic _ => Nat.ble 5 r.2.2.2.2.2.toNat || decide (am_pn[r.2.2.2.1]? = some r.2.2.2.2.1)
  | _ => true)
theorem am_nk_ok : am_all.all am_nk = true := by decide +kernel
theorem am_nk_law : am_nk e_Law_law = true := by decide +kernel
theorem am_uws_in : ∀ c, c < 12 → ∀ w ∈ u_ws (am_cn c) (am_T c) (am_N c), w ∈ lw_tbl := by
  intro c hc
  match c, hc with
  | 0, _ => exact (by decide +kernel)
  | 1, _ => exact (by decide +kernel)
  | 2, _ => exact (by decide +kernel)
  | 3, _ => exact (by decide +kernel)
  | 4, _ => exact (by decide +kernel)
  | 5, _ => exact (by decide +kernel)
  | 6, _ => exact (by decide +kernel)
  | 7, _ => exact (by decide +kernel)
  | 8, _ => exact (by decide +kernel)
  | 9, _ => exact (by decide +kernel)
  | 10, _ => exact (by decide +kernel)
  | 11, _ => exact (by decide +kernel)
  | c + 12, h => omega
theorem am_ty_ok : ∀ c, c < 12 → ∀ k, k < am_N c → parseFieldDescriptor (am_T c k).2.2.1 = some (am_ty c k) := by
  intro c hc
  match c, hc with
  | 0, _ => exact (by decide +kernel)
  | 1, _ => exact (by decide +kernel)
  | 2, _ => exact (by decide +kernel)
  | 3, _ => exact (by decide +kernel)
  | 4, _ => exact (by decide +kernel)
  | 5, _ => exact (by decide +kernel)
  | 6, _ => exact (by decide +kernel)
  | 7, _ => exact (by decide +kernel)
  | 8, _ => exact (by decide +kernel)
  | 9, _ => exact (by decide +kernel)
  | 10, _ => exact (by decide +kernel)
  | 11, _ => exact (by decide +kernel)
  | c + 12, h => omega
theorem am_nm_ok : ∀ c, c < 12 → ∀ a, a < am_N c → ∀ b, b < am_N c → a ≠ b → (am_T c a).2.1 ≠ (am_T c b).2.1 := by
  intro c hc
  match c, hc with
  | 0, _ => exact (by decide +kernel)
  | 1, _ => exact (by decide +kernel)
  | 2, _ => exact (by decide +kernel)
  | 3, _ => exact (by decide +kernel)
  | 4, _ => exact (by decide +kernel)
  | 5, _ => exact (by decide +kernel)
  | 6, _ => exact (by decide +kernel)
  | 7, _ => exact (by decide +kernel)
  | 8, _ => exact (by decide +kernel)
  | 9, _ => exact (by decide +kernel)
  | 10, _ => exact (by decide +kernel)
  | 11, _ => exact (by decide +kernel)
  | c + 12, h => omega
theorem am_in_ok : ∀ c, c < 12 → Cond.instantiable (am_cn c) (am_N c) ∈ lw_tbl ∧ Cond.initialized (am_cn c) ∈ lw_tbl := by
  intro c hc
  match c, hc with
  | 0, _ => exact (by decide +kernel)
  | 1, _ => exact (by decide +kernel)
  | 2, _ => exact (by decide +kernel)
  | 3, _ => exact (by decide +kernel)
  | 4, _ => exact (by decide +kernel)
  | 5, _ => exact (by decide +kernel)
  | 6, _ => exact (by decide +kernel)
  | 7, _ => exact (by decide +kernel)
  | 8, _ => exact (by decide +kernel)
  | 9, _ => exact (by decide +kernel)
  | 10, _ => exact (by decide +kernel)
  | 11, _ => exact (by decide +kernel)
  | c + 12, h => omega
theorem am_kd_ok : ∀ c, c < 12 → ∀ k, k < am_N c → (am_fk c)[k]? = some (match am_ty c k with | .int => 0 | .long => 1 | .boolean => 3 | _ => 2) := by
  intro c hc
  match c, hc with
  | 0, _ => exact (by decide +kernel)
  | 1, _ => exact (by decide +kernel)
  | 2, _ => exact (by decide +kernel)
  | 3, _ => exact (by decide +kernel)
  | 4, _ => exact (by decide +kernel)
  | 5, _ => exact (by decide +kernel)
  | 6, _ => exact (by decide +kernel)
  | 7, _ => exact (by decide +kernel)
  | 8, _ => exact (by decide +kernel)
  | 9, _ => exact (by decide +kernel)
  | 10, _ => exact (by decide +kernel)
  | 11, _ => exact (by decide +kernel)
  | c + 12, h => omega
