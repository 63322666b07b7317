/-! ===== the law's start ===== -/
set_option maxHeartbeats 4000000 in
/-- the law's walk, whatever references stand in the cells below 12 -/
theorem am_wstart2 {R0 : Nat → Nat → Nat} {p : Program} {e : Env} {s : State} {m : MethodId} {below : List Frame} {meth : Method} {c : Code} (l : Launch) {b L : Nat} {xs : Nat → Int32} (C0 : lw_At p s m meth c b L xs) {d : Nat} (hd : d ≤ 1000)
    (hlaw : am_W am_all (am_run d) e_Law_law (fun r _ _ _ => r = some (.int 1)) 0 [.ref 1, .null, .null, .null] [] (am_I0 xs) am_L0 (R0, (am_G0 L).2) 0 0) : W p l e room_1 s m #[Value.ref b] below meth c s.heap [] 0 0 (lw_Z below #[Value.ref b] s) (entryFrame m ([Value.ref b] : List Value).toArray 4) := by
  obtain ⟨hx, hb, hr, hml, hown, hts, hX, hbl, hlocks, hgv⟩ := C0
  have hfl : ∀ w ∈ am_flat, w.before #[Value.ref b] s = true := flat_of_before _ hgv
  have htg : ∀ w ∈ lw_g, w.before #[Value.ref b] s = true := fun w h => hts w (lw_g_tbl h)
  have hnA : ∀ a : Nat, a < s.heap.size → ¬ s.heap.size ≤ a := fun a h => Nat.not_le.mpr h
  have rg : ∀ {i : Nat}, i < 10 → i ∈ List.range 10 := fun h => List.mem_range.mpr h
  obtain ⟨adK, adV, hSt, hEv⟩ := vk_Sof (args := #[Value.ref b]) (s := s) (N := 10) (tm := am_tm) (len := am_sln) (byt := am_sby) (A := fun q : Nat => s.heap.size ≤ q)
    (fun i hi => by
      have : (List.range 10).all (fun i => decide (am_sln.getD i 0 < 2 ^ 31)) = true := by decide +kernel
      exact of_decide_eq_true (List.all_eq_true.mp this i (rg hi)))
    (fun i hi => hfl _ (of_decide_eq_true (List.all_eq_true.mp am_f_ex i (rg hi)))) (fun i hi => hfl _ (of_decide_eq_true (List.all_eq_true.mp am_f_co i (rg hi)))) (fun i hi => hfl _ (of_decide_eq_true (List.all_eq_true.mp am_f_ar i (rg hi)))) (fun i hi => hfl _ (of_decide_eq_true (List.all_eq_true.mp am_f_le i (rg hi))))
    (fun i hi j hj => hfl _ (of_decide_eq_true (List.all_eq_true.mp (List.all_eq_true.mp am_f_el i (rg hi)) j (List.mem_range.mpr hj))))
    (fun i j hi hj hij => by
      have h1 := List.all_eq_true.mp (List.all_eq_true.mp am_f_ne i (rg hi)) j (rg hj)
      simp only [Bool.or_eq_true, decide_eq_true_eq] at h1
      rcases h1 with h1 | h1 | h1
      · exact absurd h1 hij
      · exact Or.inl (hfl _ h1)
      · exact Or.inr (hfl _ h1)) hnA
  obtain ⟨ad, hade⟩ : ∃ ad, ad = am_ad0 b s.heap.size adK := ⟨_, rfl⟩
  have had : ∀ i, ad (i + 12) = s.heap.size + i := by
    intro i
    rw [hade]
    unfold am_ad0
    rw [if_neg (by omega)]
    omega
  have had1 : ad 1 = b := by rw [hade]; rfl
  have had2 : ∀ i, i < 10 → ad (i + 2) = adK i := by
    intro i hi
    rw [hade]
    unfold am_ad0
    rw [if_pos (by omega), if_neg (by omega)]
    rfl
  -- the classes
  have hD0 : ∀ k : Nat, ∃ q : ClassId × (Nat → Nat), k < 12 → u_Kn s (am_cn k) (am_T k) (am_N k) q.1 q.2 := by
    intro k
    by_cases hk : k < 12
    · obtain ⟨c0, iS0, h0⟩ := u_known (C := am_cn k) (T := am_T k) (N := am_N k) (n := am_N k) htg (am_uws_g hk) (hts _ (am_in_ok k hk).1)
      exact ⟨(c0, iS0), fun _ => h0⟩
    · exact ⟨(0, fun _ => 0), fun h => absurd h hk⟩
  obtain ⟨dq, hdq⟩ := Classical.axiomOfChoice hD0
  -- the array classes
  have ac : ∀ {ty : FieldType}, Cond.arrayClass ty ∈ lw_g → ∃ cA : ClassId, s.vm.findClass ("[" ++ ty.toString) = some cA ∧ ArrOfT s cA ty := by
    intro ty h
    obtain ⟨cA, kA, comp, h1, h2, h3⟩ := Cond.arrayClass_spec (htg _ h)
    exact ⟨cA, h1, fun n z => ⟨fun k h => (by cases h), kA, h2, comp, h3⟩⟩
  have ao : ∀ {C : String}, Cond.arrayOver (.object C) ∈ lw_tbl → ∃ cA : ClassId, va_RA s cA (.object C) ∧ ArrOfT s cA (.object C) := by
    intro C h
    obtain ⟨comp, cA, kA, h1, h2, h3, h4, h5⟩ := Cond.arrayOver_spec (hts _ h)
    exact ⟨cA, ⟨kA, comp, h3, h4, h1, h5⟩, fun n z => ⟨fun k h => (by cases h), kA, h3, comp, h4⟩⟩
  obtain ⟨y0, f0, g0⟩ := ac am_ac_int
  obtain ⟨y1, f1, g1⟩ := ac am_ac_byte
  obtain ⟨y2, f2, g2⟩ := ac am_ac_bool
  obtain ⟨y3, f3, g3⟩ := ac am_ac_long
  obtain ⟨y4, f4, g4⟩ := ao am_t_ao5
  obtain ⟨y5, f5, g5⟩ := ao am_t_ao6
  obtain ⟨y6, f6, g6⟩ := ao am_t_ao8
  obtain ⟨y7, f7, g7⟩ : ∃ cA : ClassId, s.vm.findClass ("[" ++ (FieldType.array .int).toString) = some cA ∧ ArrOfT s cA (.array .int) := by
    obtain ⟨comp, cA, kA, h1, h2, h3, h4, h5⟩ := arrayOverA_spec (hts _ am_t_aoa)
    exact ⟨cA, h5, fun n z => ⟨fun k h => (by cases h), kA, h3, comp, h4⟩⟩
  obtain ⟨cy, hcy⟩ : ∃ cy : Nat → ClassId, cy = fun t => ([y0, y1, y2, y3, y4, y5, y6, y7] : List ClassId).getD t 0 := ⟨_, rfl⟩
  have hK : va_K (fun k => (dq k).1, fun k => (dq k).2) am_cl (am_tys cy) s := by
    refine ⟨fun k q hq => ?_, fun k q hq => ?_⟩
    · have hk : k < 12 := (show am_cl.length = 12 from rfl) ▸ (List.getElem?_eq_some_iff.mp hq).1
      rw [am_cl_get hk] at hq
      cases hq
      exact hdq k hk
    · subst hcy
      match k, hq with
      | 0, hq => cases hq; exact ⟨g0, f0⟩
      | 1, hq => cases hq; exact ⟨g1, f1⟩
      | 2, hq => cases hq; exact ⟨g2, f2⟩
      | 3, hq => cases hq; exact ⟨g3, f3⟩
      | 4, hq => cases hq; exact ⟨g4, f4⟩
      | 5, hq => cases hq; exact ⟨g5, f5⟩
      | 6, hq => cases hq; exact ⟨g6, f6⟩
      | 7, hq => cases hq; exact ⟨g7, f7⟩
      | k + 8, hq => cases hq
  have hN : am_Nx ad s := by
    refine ⟨fun r q hq h4 => ?_, fun k hk h1 => ?_, ?_, fun r q hq => ?_⟩
    · have h9 := hts _ (am_mem_ml hq)
      rw [am_mlc4 h4] at h9 ⊢
      exact va_Nw.of rfl h9
    · rcases h1 with rfl | rfl | rfl
      · exact va_AO.of (hts _ am_t_ao5)
      · exact va_AO.of (hts _ am_t_ao6)
      · exact va_AO.of (hts _ am_t_ao8)
    · have h9 := hts _ am_t_aoa
      simp only [Cond.before, Cond.holds, Cond.value] at h9 ⊢
      exact h9
    · obtain ⟨o, i, x⟩ := r
      obtain ⟨z1, z2, z3⟩ := of_decide_eq_true (List.all_eq_true.mp am_f_slz _ hq)
      have z4 := of_decide_eq_true (List.all_eq_true.mp am_slz_ok _ hq)
      dsimp only at z1 z2 z3 z4
      have z5 := hEv (x - 2) (by omega)
      have z6 : am_tm (x - 2) = .string (am_cn o) i := by
        unfold am_tm
        rw [List.getD_eq_getElem?_getD, z3]
        rfl
      rw [z6, ← had2 (x - 2) (by omega), show x - 2 + 2 = x by omega] at z5
      exact vk_R.of (hts _ (List.mem_of_getElem? z4.1)) z5
  have hSK : am_SK ad s.heap.size s s.heap := by
    refine ⟨⟨adV, ?_⟩, va_Zof (hts _ am_t_ls1) (hts _ (lw_g_tbl is_str)) (va_eqi (hfl _ am_f_cs)) hnA, va_Zqof (hts _ am_t_ls2) (hts _ (lw_g_tbl is_pre)) (hfl _ am_f_si) hnA⟩
    refine ⟨fun i hi => ?_, fun i j hi hj e => ?_⟩
    · dsimp only
      rw [had2 i hi]
      exact hSt.1 i hi
    · dsimp only at e
      rw [had2 i hi, had2 j hj] at e
      exact hSt.2 i j hi hj e
  have cx : am_Cx ad cy (fun k => (dq k).1, fun k => (dq k).2) s.heap.size L xs e_Law_law p room_1 s m #[Value.ref b] meth c :=
    ⟨hx, hb, hml, hown, htg, fun h => absurd h (by decide), k_law, hK, had, Nat.le_refl _, hN, by rw [had1]; exact hX, by rw [had1]; exact hbl, by decide, by decide, rfl, rfl⟩
  have key := hlaw _ (am_s1 (l := l) (v := e) (below := below) (QW := lw_Z below #[Value.ref b] s) cx) (am_s2 cx) (am_s3 cx) (am_s4 cx) (am_s5 cx) (am_s6 cx) (am_s7 cx) (am_s8 cx hSK am_nk_law (am_mt ad cy _ s.heap.size L xs l d) (by show d + 4 ≤ 2048; omega) (by show 60 * (d + 2) ≤ 84000; omega)) (am_s9L cx hr hlocks)
  rw [lg_entry_eq]
  have hen := am_entry (ad := ad) (as := [.ref 1]) (n := 4) rfl rfl
  have e1 : ([.ref 1] : List Value).map (am_tv ad) = [.ref b] := by rw [← had1]; rfl
  rw [e1] at hen
  refine key s.heap [] _ ⟨rfl, Nat.le_refl _, fun a h1 h2 => ?_, va_S.rf, ⟨fun a c h => ?_, fun a t N h => ?_⟩, fun j hj => rfl, hen, rfl⟩
  · exact absurd h2 (Nat.not_lt.mpr h1)
  · exfalso
    change (if a = 1 then Sum.inr (8, L) else Sum.inr (9, 0) : am_Sh) = Sum.inl c at h
    split at h <;> cases h
  · change (if a = 1 then Sum.inr (8, L) else Sum.inr (9, 0) : am_Sh) = Sum.inr (t, N) at h
    split at h
    next ha => cases h; exact ⟨fun z => absurd z (by decide), fun _ => ⟨ha, rfl⟩⟩
    next ha => cases h; exact ⟨fun z => absurd z (by decide), fun z => absurd z (by decide)⟩

theorem zG_0 {L : Nat} : zG L [] = ((zG L []).1, (am_G0 L).2) := by
  refine Prod.ext rfl (Prod.ext ?_ rfl)
  funext a
  show (zG L []).2.1 a = if a = 1 then .inr (8, L) else .inr (9, 0)
  rw [zG_S]
  by_cases z : a = 1
  · rw [if_pos z, if_pos z]
  · rw [if_neg z, if_neg z]
    by_cases w : a < 12
    · rw [if_pos w]
    · rw [if_neg w]; rfl
