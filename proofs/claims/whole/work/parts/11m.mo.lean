/-- what the tables say of method i -/
def am_mo (i : Nat) : Bool := match am_all[i]?, am_mp[i]?, am_pn[i]? with
  | some e, some p, some n => decide (lw_tbl[p.1]? = some (.code e.1 e.2.1 (am_maxL e) (am_ret e))) && (decide (lw_tbl[p.2.2.2.2]? = some (.initialized (am_cn (am_own e)))) && (decide (e.1.cls = am_cn (am_own e)) && (decide ((parseMethodDescriptor e.1.desc).map (fun d => d.parameters.length) = some n) && (plainFor e.1 && decide (e.1.cls ≠ "java/lang/invoke/MethodHandle" ∧ e.1.cls ≠ "java/lang/invoke/VarHandle" ∧ am_maxL e ≤ 30)))))
  | _, _, _ => false
theorem am_mo_0 : (((List.range 226).drop (12 * 0)).take 12).all am_mo = true := by decide +kernel
theorem am_mo_1 : (((List.range 226).drop (12 * 1)).take 12).all am_mo = true := by decide +kernel
theorem am_mo_2 : (((List.range 226).drop (12 * 2)).take 12).all am_mo = true := by decide +kernel
theorem am_mo_3 : (((List.range 226).drop (12 * 3)).take 12).all am_mo = true := by decide +kernel
theorem am_mo_4 : (((List.range 226).drop (12 * 4)).take 12).all am_mo = true := by decide +kernel
theorem am_mo_5 : (((List.range 226).drop (12 * 5)).take 12).all am_mo = true := by decide +kernel
theorem am_mo_6 : (((List.range 226).drop (12 * 6)).take 12).all am_mo = true := by decide +kernel
theorem am_mo_7 : (((List.range 226).drop (12 * 7)).take 12).all am_mo = true := by decide +kernel
theorem am_mo_8 : (((List.range 226).drop (12 * 8)).take 12).all am_mo = true := by decide +kernel
theorem am_mo_9 : (((List.range 226).drop (12 * 9)).take 12).all am_mo = true := by decide +kernel
theorem am_mo_10 : (((List.range 226).drop (12 * 10)).take 12).all am_mo = true := by decide +kernel
theorem am_mo_11 : (((List.range 226).drop (12 * 11)).take 12).all am_mo = true := by decide +kernel
theorem am_mo_12 : (((List.range 226).drop (12 * 12)).take 12).all am_mo = true := by decide +kernel
theorem am_mo_13 : (((List.range 226).drop (12 * 13)).take 12).all am_mo = true := by decide +kernel
theorem am_mo_14 : (((List.range 226).drop (12 * 14)).take 12).all am_mo = true := by decide +kernel
theorem am_mo_15 : (((List.range 226).drop (12 * 15)).take 12).all am_mo = true := by decide +kernel
theorem am_mo_16 : (((List.range 226).drop (12 * 16)).take 12).all am_mo = true := by decide +kernel
theorem am_mo_17 : (((List.range 226).drop (12 * 17)).take 12).all am_mo = true := by decide +kernel
theorem am_mo_18 : (((List.range 226).drop (12 * 18)).take 12).all am_mo = true := by decide +kernel
theorem am_mo_ok : (List.range 226).all am_mo = true := by
  refine am_chunk _ 12 19 _ (fun j hj => ?_) (by decide +kernel)
  match j, hj with
  | 0, _ => exact am_mo_0
  | 1, _ => exact am_mo_1
  | 2, _ => exact am_mo_2
  | 3, _ => exact am_mo_3
  | 4, _ => exact am_mo_4
  | 5, _ => exact am_mo_5
  | 6, _ => exact am_mo_6
  | 7, _ => exact am_mo_7
  | 8, _ => exact am_mo_8
  | 9, _ => exact am_mo_9
  | 10, _ => exact am_mo_10
  | 11, _ => exact am_mo_11
  | 12, _ => exact am_mo_12
  | 13, _ => exact am_mo_13
  | 14, _ => exact am_mo_14
  | 15, _ => exact am_mo_15
  | 16, _ => exact am_mo_16
  | 17, _ => exact am_mo_17
  | 18, _ => exact am_mo_18
  | j + 19, hj => omega
