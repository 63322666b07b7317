/-! ===== the lesser, among any cells ===== -/
theorem sq_Math_min_0 {C : am_C} {Q : am_Q} {I : am_I} {L : am_L} {G : am_G} (x0 : Int32) (x1 : Int32)  (h2 : x1 < x0 → Q (some (.int x1)) I L G) (h4 : ¬ x1 < x0 → Q (some (.int x0)) I L G) : am_W am_all C e_Math_min Q 0 [.int x0, .int x1] [] I L G 0 0 :=
  ax_iload_n (pc := 0) rfl rfl (ax_iload_n (pc := 1) rfl rfl (ax_icmp_gt (pc := 2) (t := 9) rfl rfl (fun c1 => ax_iload_n (pc := 9) rfl rfl (ax_iret (pc := 10) rfl rfl (Nat.le_refl _) (Nat.le_refl _) (h2 c1))) (fun c3 => ax_iload_n (pc := 5) rfl rfl (ax_goto (pc := 6) (t := 10) rfl rfl (ax_iret (pc := 10) rfl rfl (Nat.le_refl _) (Nat.le_refl _) (h4 c3))))))
theorem sp_min {d : Nat} {Q : am_Q} {I : am_I} {L : am_L} {G : am_G} {n : Nat} (hn : n < 400) (h : Q (some (.int (nI n))) I L G) : am_run (d + 1) 223 [.int (Int32.ofNat 400), .int (nI n)] I L G Q :=
  run_in rfl rfl ⟨rfl, rfl⟩ (sq_Math_min_0 _ _ (fun _ => h) (fun z => absurd (nI_lt (b := 400) hn (by decide)) z))
