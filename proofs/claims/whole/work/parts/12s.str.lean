def am_sby : List (List Int32) := (List.range 10).map (fun i => am_strs (i + 2))
def am_sln : List Nat := am_sby.map List.length
theorem am_sby_get {x : Nat} (h : 2 ≤ x ∧ x < 12) : am_sby.getD (x - 2) [] = am_strs x ∧ am_sln.getD (x - 2) 0 = (am_strs x).length ∧ x - 2 < 10 := by
  obtain ⟨h1, h2⟩ := h
  have : x = 2 ∨ x = 3 ∨ x = 4 ∨ x = 5 ∨ x = 6 ∨ x = 7 ∨ x = 8 ∨ x = 9 ∨ x = 10 ∨ x = 11 := by omega
  rcases this with rfl | rfl | rfl | rfl | rfl | rfl | rfl | rfl | rfl | rfl <;> exact ⟨rfl, rfl, by decide⟩
/-- each sign of these texts is a byte from 0 on -/
theorem am_asc : ∀ x, x < 12 → ∀ b ∈ am_strs x, ((b &&& 255).toUInt32 % 65536).toInt32 = b ∧ narrow .char (.int b) = .int b := by decide +kernel
theorem am_slen : ∀ x, x < 12 → (am_strs x).length < 100 := by decide +kernel
/-- the String constants and two statics, as the heap has them -/
def am_SK (ad : Nat → Nat) (base : Nat) (U : State) (H : Heap) : Prop :=
  (∃ adV, vk_S 10 am_sln am_sby (fun i => ad (i + 2)) adV (fun q : Nat => base ≤ q) U H) ∧ va_Z "java/lang/String" "COMPACT_STRINGS" "Z" (.int 1) (fun q : Nat => base ≤ q) U H ∧ va_Zq "jdk/internal/util/Preconditions" "SIOOBE_FORMATTER" "Ljava/util/function/BiFunction;" (fun q : Nat => base ≤ q) U H
theorem am_SK.moved {ad : Nat → Nat} {base : Nat} {u U : State} {H : Heap} (hvm : u.vm.Alike U.vm) (h : am_SK ad base u H) : am_SK ad base U H := ⟨h.1.imp (fun _ z => z.moved hvm), h.2.1.moved hvm, h.2.2.moved hvm⟩
theorem am_SK.kept {ad : Nat → Nat} {base : Nat} {U : State} {H H1 : Heap} (h : am_SK ad base U H) (hq : ∀ a : Nat, a < H.size → ¬ base ≤ a → H1[a]? = H[a]?) : am_SK ad base U H1 := ⟨h.1.imp (fun _ z => z.kept hq), h.2.1.kept hq, h.2.2.kept hq⟩
/-- a method that changes nothing -/
def am_Qs (v : Option Value) : Array Value → State → Outcome → State → Prop := fun _ st o t => o = .returned v ∧ t.heap = st.heap
theorem am_skb {ad : Nat → Nat} {base : Nat} {as : List Value} : FrameBlind (va_Pc as (fun U => am_SK ad base U U.heap)) := fun a U g mk h => ⟨h.1, am_SK.moved (u := U) (U := U.calling g mk a) (Vm.Alike.refl U.vm) h.2⟩
section AMT
variable {p : Program} {l : Launch} {v : Env} {R : Room} {s : State} {m : MethodId} {args : Array Value} {below : List Frame} {meth : Method} {c : Code} {QW : State → Prop}
theorem am_conts {pc : Nat} {rest st : List Value} {k n : Nat} {w : Option Value} {a : Array Value} {H : Heap} {locs : List Loc} {lsv : Array Slot}
    (hr : va_Run p l v R s m args below meth c H locs k n 0 0 (F0 m pc lsv st) rest (am_Qs w a) (fun _ => False))
    (kk : W p l v R s m args below meth c H locs k n QW (F0 m (pc + 3) lsv (w.toList ++ rest))) : W p l v R s m args below meth c H locs k n QW (F0 m pc lsv st) := by
  intro T hT X
  obtain ⟨w', st₀, t, T', L', h0, X', hL, e1, e2, ⟨hv, hh⟩, stp⟩ := hr T hT X
  have hv : w' = w := by cases hv; rfl
  subst hv
  have hL0 : L' = [] := by
    cases L' with
    | nil => rfl
    | cons q L' => exact absurd (hL q List.mem_cons_self) id
  subst hL0
  rw [List.append_nil] at X'
  obtain ⟨t2, a1, b1⟩ := kk T' (by rw [e1, hh, h0]) X'
  exact ⟨t2, stp t2 a1, b1⟩
end AMT
theorem am_gw {y : MethodName} {b : ByteArray} {n : Nat} {r : Option FieldType} (h : Cond.code y b n r ∈ lw_g) : GoodIn lw_g (Cond.code y b n r :: lw_g) := by
  intro w hw
  rcases List.mem_cons.mp hw with rfl | h'
  · exact lw_g_good _ h
  · exact lw_g_good _ h'
set_option maxRecDepth 20000 in
theorem ct_cod (l : Launch) (ad : Nat → Nat) (base x : Nat) (hx2 : 2 ≤ x ∧ x < 12) : Met l ys_cod ws_cod ({ frames := 0, cells := 0, slots := 0, locals := 0 }) (va_Pc [.ref (ad x)] (fun U => am_SK ad base U U.heap)) (am_Qs (some (.int 0))) 0 0 (fun _ => False) := by
  refine va_MetF (cc := prog_17_method_152_code) (maxL := 1) (ret := some .byte) (by decide +kernel) rfl ?_
  intro p e s m args below meth c s₁ B hml hv
  obtain ⟨rfl, ⟨⟨adV, hK⟩, hZ, hZ2⟩⟩ := hv
  have hx := B.exec
  have hb := B.bytes
  have hr := B.returns
  have hts : ∀ w ∈ lw_g, w.before _ s = true := fun w h => atoms_spec (ws := ws_cod) B.pre w (List.mem_cons_of_mem _ h)
  have hown : s.vm.findClass "java/lang/String" = some m.cls := findClass_of_methodNamed B.named
  have hlocks := B.notSynchronized
  have hS : va_S (fun q : Nat => base ≤ q) s.heap s.heap [] := va_S.rf
  have hl := lv_entry ([.ref (ad x)]) (n := 1) (Nat.le_of_ble_eq_true rfl)
  rw [lg_entry_eq]
  generalize (lg_sl ([.ref (ad x)]) ++ List.replicate (1 - (lg_sl ([.ref (ad x)])).length) Slot.unset).toArray = ls at hl ⊢
  have hl : lv_has ls 1 [(0, .ref (ad x))] := hl
  have h3 := hK.1 (x - 2) (am_sby_get hx2).2.2
  dsimp only at h3
  rw [show x - 2 + 2 = x by omega] at h3
  refine va_gets hx hb hZ hS hown (hts _ ls_cod_0) (fun _ h => h) ds_cod_0 ?_
  refine lv_if_eq (tgt := 13) hx hb ds_cod_3 (by decide) (fun z => absurd z (by decide)) (fun _ => ?_)
  refine lv_aload_n hx hb ds_cod_6 rfl (lv_at hl 0 rfl) ?_
  refine vk_getf hx hb h3.2.1 hS hown (hts _ ls_cod_7) (fun _ h => h) ds_cod_7 ?_
  refine lv_goto (tgt := 14) hx hb ds_cod_10 (by decide) ?_
  exact W.zret (ty := .byte) hx hb hr (by decide) (fun t ht hW => ⟨rfl, ht⟩) (fun _ h => by cases h) ds_cod_14
set_option maxRecDepth 20000 in
theorem ct_lat (l : Launch) (ad : Nat → Nat) (base x : Nat) (hx2 : 2 ≤ x ∧ x < 12) : Met l ys_lat ws_lat ({ frames := 0, cells := 0, slots := 0, locals := 0 }) (va_Pc [.ref (ad x)] (fun U => am_SK ad base U U.heap)) (am_Qs (some (.int 1))) 0 0 (fun _ => False) := by
  refine va_MetF (cc := prog_17_method_154_code) (maxL := 1) (ret := some .boolean) (by decide +kernel) rfl ?_
  intro p e s m args below meth c s₁ B hml hv
  obtain ⟨rfl, ⟨⟨adV, hK⟩, hZ, hZ2⟩⟩ := hv
  have hx := B.exec
  have hb := B.bytes
  have hr := B.returns
  have hts : ∀ w ∈ lw_g, w.before _ s = true := fun w h => atoms_spec (ws := ws_lat) B.pre w (List.mem_cons_of_mem _ h)
  have hown : s.vm.findClass "java/lang/String" = some m.cls := findClass_of_methodNamed B.named
  have hlocks := B.notSynchronized
  have hS : va_S (fun q : Nat => base ≤ q) s.heap s.heap [] := va_S.rf
  have hl := lv_entry ([.ref (ad x)]) (n := 1) (Nat.le_of_ble_eq_true rfl)
  rw [lg_entry_eq]
  generalize (lg_sl ([.ref (ad x)]) ++ List.replicate (1 - (lg_sl ([.ref (ad x)])).length) Slot.unset).toArray = ls at hl ⊢
  have hl : lv_has ls 1 [(0, .ref (ad x))] := hl
  have h3 := hK.1 (x - 2) (am_sby_get hx2).2.2
  dsimp only at h3
  rw [show x - 2 + 2 = x by omega] at h3
  refine va_gets hx hb hZ hS hown (hts _ ls_lat_0) (fun _ h => h) ds_lat_0 ?_
  refine lv_if_eq (tgt := 17) hx hb ds_lat_3 (by decide) (fun z => absurd z (by decide)) (fun _ => ?_)
  refine lv_aload_n hx hb ds_lat_6 rfl (lv_at hl 0 rfl) ?_
  refine vk_getf hx hb h3.2.1 hS hown (hts _ ls_lat_7) (fun _ h => h) ds_lat_7 ?_
  refine lv_if_ne (tgt := 17) hx hb ds_lat_10 (by decide) (fun z => absurd rfl z) (fun _ => ?_)
  refine lv_iconst (v := 1) hx hb ds_lat_13 (by decide) ?_
  refine lv_goto (tgt := 18) hx hb ds_lat_14 (by decide) ?_
  exact W.zret (ty := .boolean) hx hb hr (by decide) (fun t ht hW => ⟨rfl, ht⟩) (fun _ h => by cases h) ds_lat_18
set_option maxRecDepth 20000 in
theorem ct_len (l : Launch) (ad : Nat → Nat) (base x : Nat) (hx2 : 2 ≤ x ∧ x < 12) : Met l ys_len ws_len ({ frames := 1, cells := 0, slots := 0, locals := 20 }) (va_Pc [.ref (ad x)] (fun U => am_SK ad base U U.heap)) (am_Qs (some (.int (nI (am_strs x).length)))) 0 0 (fun _ => False) := by
  refine va_MetF (cc := prog_17_method_54_code) (maxL := 1) (ret := some .int) (by decide +kernel) rfl ?_
  intro p e s m args below meth c s₁ B hml hv
  obtain ⟨rfl, hSK⟩ := hv
  obtain ⟨⟨adV, hK⟩, hZ, hZ2⟩ := id hSK
  have hx := B.exec
  have hb := B.bytes
  have hr := B.returns
  have hts : ∀ w ∈ lw_g, w.before _ s = true := fun w h => atoms_spec (ws := ws_len) B.pre w (List.mem_cons_of_mem _ h)
  have hown : s.vm.findClass "java/lang/String" = some m.cls := findClass_of_methodNamed B.named
  have hlocks := B.notSynchronized
  have hS : va_S (fun q : Nat => base ≤ q) s.heap s.heap [] := va_S.rf
  have hl := lv_entry ([.ref (ad x)]) (n := 1) (Nat.le_of_ble_eq_true rfl)
  rw [lg_entry_eq]
  generalize (lg_sl ([.ref (ad x)]) ++ List.replicate (1 - (lg_sl ([.ref (ad x)])).length) Slot.unset).toArray = ls at hl ⊢
  have hl : lv_has ls 1 [(0, .ref (ad x))] := hl
  obtain ⟨b1, b2, b3⟩ := am_sby_get hx2
  have h3 := hK.1 (x - 2) b3
  have hrc := vk_recv hK b3 hS
  dsimp only at h3 hrc
  rw [show x - 2 + 2 = x by omega] at h3 hrc
  refine lv_aload_n hx hb ds_len_0 rfl (lv_at hl 0 rfl) ?_
  refine vk_getf hx hb h3.2.2.1 hS hown (hts _ ls_len_1) (fun _ h => h) ds_len_1 ?_
  refine va_tlen hx hb h3.2.2.2 hS rfl ds_len_4 ?_
  refine lv_aload_n hx hb ds_len_5 rfl (lv_at hl 0 rfl) ?_
  refine am_conts (w := some (.int 0)) (rest := [.int (Int32.ofNat (am_sln.getD (x - 2) 0))]) (va_runV (C := "java/lang/String") (As := []) (bytes := prog_17_method_152_code) (maxL := 1) (ret := some .byte) (n := 0) (index := 335) (own := "java/lang/String") ⟨hx, hb, hml, hown, hts⟩ (ct_cod l ad base x hx2) ⟨callB_of 0 hts (am_gw ks_cod) rfl rfl rfl (hts _ is_str) (hts _ ls_len_6) (by decide +kernel) ⟨Nat.le_of_ble_eq_true rfl, Nat.le_of_ble_eq_true rfl⟩, hts _ ki_cod.1, hts _ ki_cod.2⟩ ⟨am_skb, hrc, fun U hU hW => ⟨rfl, by show am_SK ad base U U.heap; rw [hU]; exact hSK.moved hW.alike⟩⟩ rfl rfl hl.1 rfl (lv_room (Nat.le_of_ble_eq_true rfl)) ds_len_6 ⟨Nat.le_refl _, Nat.le_refl _⟩) ?_
  refine lv_ishr hx hb ds_len_9 ?_
  rw [sb_shr0, b2]
  exact W.iret hx hb hr (fun t ht hW => ⟨rfl, ht⟩) (fun _ h => by cases h) ds_len_10
set_option maxRecDepth 20000 in
theorem ct_pre (l : Launch) (i n : Int32) (f : Value) (hf : f = .null ∨ ∃ a, f = .ref a) (h0 : ¬ i < 0) (h1 : i < n) : Met l ys_pre ws_pre ({ frames := 0, cells := 0, slots := 0, locals := 0 }) (va_Pc [.int i, .int n, f] (fun _ => True)) (am_Qs (some (.int i))) 0 0 (fun _ => False) := by
  refine va_MetF (cc := prog_22_method_11_code) (maxL := 3) (ret := some .int) (by decide +kernel) rfl ?_
  intro p e s m args below meth c s₁ B hml hv
  obtain ⟨rfl, -⟩ := hv
  have hx := B.exec
  have hb := B.bytes
  have hr := B.returns
  have hlocks := B.notSynchronized
  have hcat : f.category = 1 := by rcases hf with rfl | ⟨a, rfl⟩ <;> rfl
  have hlen : (lg_sl ([.int i, .int n, f])).length ≤ 3 := by rcases hf with rfl | ⟨a, rfl⟩ <;> exact Nat.le_of_ble_eq_true rfl
  have hl := lv_entry ([.int i, .int n, f]) (n := 3) hlen
  rw [lg_entry_eq]
  generalize (lg_sl ([.int i, .int n, f]) ++ List.replicate (3 - (lg_sl ([.int i, .int n, f])).length) Slot.unset).toArray = ls at hl ⊢
  have hl : lv_has ls 3 [(0, .int i), (1, .int n), (2, f)] := hl
  refine lv_iload_n hx hb ds_pre_0 rfl (lv_at hl 0 rfl) ?_
  refine lv_if_lt (tgt := 9) hx hb ds_pre_1 (by decide) (fun z => absurd z h0) (fun _ => ?_)
  refine lv_iload_n hx hb ds_pre_4 rfl (lv_at hl 0 rfl) ?_
  refine lv_iload_n hx hb ds_pre_5 rfl (lv_at hl 1 rfl) ?_
  refine lv_icmp_lt (tgt := 16) hx hb ds_pre_6 (by decide) (fun _ => ?_) (fun z => absurd h1 z)
  refine lv_iload_n hx hb ds_pre_16 rfl (lv_at hl 0 rfl) ?_
  exact W.iret hx hb hr (fun t ht hW => ⟨rfl, ht⟩) (fun _ h => by cases h) ds_pre_17
set_option maxRecDepth 20000 in
theorem ct_chk (l : Launch) (ad : Nat → Nat) (base : Nat) (i n : Int32) (h0 : ¬ i < 0) (h1 : i < n) : Met l ys_chk ws_chk ({ frames := 1, cells := 0, slots := 0, locals := 22 }) (va_Pc [.int i, .int n] (fun U => am_SK ad base U U.heap)) (am_Qs none) 0 0 (fun _ => False) := by
  refine va_MetF (cc := prog_17_method_155_code) (maxL := 2) (ret := none) (by decide +kernel) rfl ?_
  intro p e s m args below meth c s₁ B hml hv
  obtain ⟨rfl, ⟨⟨adV, hK⟩, hZ, hZ2⟩⟩ := hv
  have hx := B.exec
  have hb := B.bytes
  have hr := B.returns
  have hts : ∀ w ∈ lw_g, w.before _ s = true := fun w h => atoms_spec (ws := ws_chk) B.pre w (List.mem_cons_of_mem _ h)
  have hown : s.vm.findClass "java/lang/String" = some m.cls := findClass_of_methodNamed B.named
  have hlocks := B.notSynchronized
  have hS : va_S (fun q : Nat => base ≤ q) s.heap s.heap [] := va_S.rf
  have hl := lv_entry ([.int i, .int n]) (n := 2) (Nat.le_of_ble_eq_true rfl)
  rw [lg_entry_eq]
  generalize (lg_sl ([.int i, .int n]) ++ List.replicate (2 - (lg_sl ([.int i, .int n])).length) Slot.unset).toArray = ls at hl ⊢
  have hl : lv_has ls 2 [(0, .int i), (1, .int n)] := hl
  have hZ3 : ∃ f : Value, (f = .null ∨ ∃ a, f = .ref a) ∧ va_Z "jdk/internal/util/Preconditions" "SIOOBE_FORMATTER" "Ljava/util/function/BiFunction;" f (fun q : Nat => base ≤ q) s s.heap := by
    rcases hZ2 with z | ⟨t, z⟩
    · exact ⟨_, Or.inl rfl, z⟩
    · exact ⟨_, Or.inr ⟨t, rfl⟩, z⟩
  obtain ⟨f, hf, hZ3⟩ := hZ3
  refine lv_iload_n hx hb ds_chk_0 rfl (lv_at hl 0 rfl) ?_
  refine lv_iload_n hx hb ds_chk_1 rfl (lv_at hl 1 rfl) ?_
  refine va_gets hx hb hZ3 hS hown (hts _ ls_chk_2) (fun _ h => h) ds_chk_2 ?_
  refine am_conts (w := some (.int i)) (rest := []) (va_runS (As := [.int i, .int n, f]) (bytes := prog_22_method_11_code) (maxL := 3) (ret := some .int) (n := 3) (index := 1059) (own := "java/lang/String") ⟨hx, hb, hml, hown, hts⟩ (ct_pre l i n f hf h0 h1) ⟨callB_of 3 hts (am_gw ks_pre) rfl rfl rfl (hts _ is_pre) (hts _ ls_chk_5) (by decide +kernel) ⟨Nat.le_of_ble_eq_true rfl, Nat.le_of_ble_eq_true rfl⟩, hts _ ki_pre⟩ ⟨fun a U g mk h => ⟨h.1, trivial⟩, fun U hU hW => ⟨rfl, trivial⟩⟩ rfl rfl hl.1 rfl (lv_room (Nat.le_of_ble_eq_true rfl)) ds_chk_5 ⟨Nat.le_refl _, Nat.le_refl _⟩) ?_
  refine lv_pop hx hb ds_chk_8 rfl ?_
  exact W.vret hx hb hr (fun t ht hW => ⟨rfl, ht⟩) (fun _ h => by cases h) ds_chk_9
set_option maxRecDepth 20000 in
theorem ct_lch (l : Launch) (ad : Nat → Nat) (base x : Nat) (hx2 : 2 ≤ x ∧ x < 12) (aV : Nat) (i : Int32) (hi : vp_in i (am_strs x).length) : Met l ys_lch ws_lch ({ frames := 2, cells := 0, slots := 0, locals := 43 }) (va_Pc [.ref aV, .int i] (fun U => am_SK ad base U U.heap ∧ va_T .byte aV (am_strs x).length (fun j => .int ((am_strs x).getD j 0)) (fun q : Nat => base ≤ q) U U.heap)) (am_Qs (some (.int ((am_strs x).getD i.toNatClampNeg 0)))) 0 0 (fun _ => False) := by
  refine va_MetF (cc := prog_18_method_2_code) (maxL := 2) (ret := some .char) (by decide +kernel) rfl ?_
  intro p e s m args below meth c s₁ B hml hv
  obtain ⟨rfl, hSK, hT⟩ := hv
  have hx := B.exec
  have hb := B.bytes
  have hr := B.returns
  have hts : ∀ w ∈ lw_g, w.before _ s = true := fun w h => atoms_spec (ws := ws_lch) B.pre w (List.mem_cons_of_mem _ h)
  have hown : s.vm.findClass "java/lang/StringLatin1" = some m.cls := findClass_of_methodNamed B.named
  have hlocks := B.notSynchronized
  have hS : va_S (fun q : Nat => base ≤ q) s.heap s.heap [] := va_S.rf
  have hl := lv_entry ([.ref aV, .int i]) (n := 2) (Nat.le_of_ble_eq_true rfl)
  rw [lg_entry_eq]
  generalize (lg_sl ([.ref aV, .int i]) ++ List.replicate (2 - (lg_sl ([.ref aV, .int i])).length) Slot.unset).toArray = ls at hl ⊢
  have hl : lv_has ls 2 [(0, .ref aV), (1, .int i)] := hl
  have hlen := am_slen x hx2.2
  obtain ⟨j, hj, hij⟩ := vp_in_of hi (by omega)
  have h0 : ¬ i < 0 := fun z => hi (Or.inl z)
  have h1 : i < Int32.ofNat (am_strs x).length := by rw [hij]; exact nI_lt hj (by omega)
  have hcl : i.toNatClampNeg = j := by rw [hij]; exact nI_clamp (by omega)
  refine lv_iload_n hx hb ds_lch_0 rfl (lv_at hl 1 rfl) ?_
  refine lv_aload_n hx hb ds_lch_1 rfl (lv_at hl 0 rfl) ?_
  refine va_tlen hx hb hT hS rfl ds_lch_2 ?_
  refine am_conts (w := none) (rest := []) (va_runS (As := [.int i, .int (Int32.ofNat (am_strs x).length)]) (bytes := prog_17_method_155_code) (maxL := 2) (ret := none) (n := 2) (index := 9) (own := "java/lang/StringLatin1") ⟨hx, hb, hml, hown, hts⟩ (ct_chk l ad base i _ h0 h1) ⟨callB_of 2 hts (am_gw ks_chk) rfl rfl rfl (hts _ is_str) (hts _ ls_lch_3) (by decide +kernel) ⟨Nat.le_of_ble_eq_true rfl, Nat.le_of_ble_eq_true rfl⟩, hts _ ki_chk⟩ ⟨am_skb, fun U hU hW => ⟨rfl, by show am_SK ad base U U.heap; rw [hU]; exact hSK.moved hW.alike⟩⟩ rfl rfl hl.1 rfl (lv_room (Nat.le_of_ble_eq_true rfl)) ds_lch_3 ⟨Nat.le_refl _, Nat.le_refl _⟩) ?_
  refine lv_aload_n hx hb ds_lch_6 rfl (lv_at hl 0 rfl) ?_
  refine lv_iload_n hx hb ds_lch_7 rfl (lv_at hl 1 rfl) ?_
  refine va_tb hx hb hT hS hi rfl ds_lch_8 ?_
  refine lv_sipush (v := 255) hx hb ds_lch_9 (by decide) ?_
  refine lv_iand hx hb ds_lch_12 ?_
  have hb9 : (am_strs x).getD i.toNatClampNeg 0 ∈ am_strs x := by
    rw [hcl, List.getD_eq_getElem?_getD, List.getElem?_eq_getElem hj]
    exact List.getElem_mem hj
  obtain ⟨e1, e2⟩ := am_asc x hx2.2 _ hb9
  refine lv_i2c hx hb ds_lch_13 e1 ?_
  exact W.zret (ty := .char) hx hb hr e2 (fun t ht hW => ⟨rfl, ht⟩) (fun _ h => by cases h) ds_lch_14
set_option maxRecDepth 20000 in
theorem ct_chr (l : Launch) (ad : Nat → Nat) (base x : Nat) (hx2 : 2 ≤ x ∧ x < 12) (i : Int32) (hi : vp_in i (am_strs x).length) : Met l ys_chr ws_chr ({ frames := 3, cells := 0, slots := 0, locals := 64 }) (va_Pc [.ref (ad x), .int i] (fun U => am_SK ad base U U.heap)) (am_Qs (some (.int ((am_strs x).getD i.toNatClampNeg 0)))) 0 0 (fun _ => False) := by
  refine va_MetF (cc := prog_17_method_56_code) (maxL := 2) (ret := some .char) (by decide +kernel) rfl ?_
  intro p e s m args below meth c s₁ B hml hv
  obtain ⟨rfl, hSK⟩ := hv
  obtain ⟨⟨adV, hK⟩, hZ, hZ2⟩ := id hSK
  have hx := B.exec
  have hb := B.bytes
  have hr := B.returns
  have hts : ∀ w ∈ lw_g, w.before _ s = true := fun w h => atoms_spec (ws := ws_chr) B.pre w (List.mem_cons_of_mem _ h)
  have hown : s.vm.findClass "java/lang/String" = some m.cls := findClass_of_methodNamed B.named
  have hlocks := B.notSynchronized
  have hS : va_S (fun q : Nat => base ≤ q) s.heap s.heap [] := va_S.rf
  have hl := lv_entry ([.ref (ad x), .int i]) (n := 2) (Nat.le_of_ble_eq_true rfl)
  rw [lg_entry_eq]
  generalize (lg_sl ([.ref (ad x), .int i]) ++ List.replicate (2 - (lg_sl ([.ref (ad x), .int i])).length) Slot.unset).toArray = ls at hl ⊢
  have hl : lv_has ls 2 [(0, .ref (ad x)), (1, .int i)] := hl
  obtain ⟨b1, b2, b3⟩ := am_sby_get hx2
  have h3 := hK.1 (x - 2) b3
  have hrc := vk_recv hK b3 hS
  dsimp only at h3 hrc
  rw [show x - 2 + 2 = x by omega] at h3 hrc
  rw [b1, b2] at h3
  refine lv_aload_n hx hb ds_chr_0 rfl (lv_at hl 0 rfl) ?_
  refine am_conts (w := some (.int 1)) (rest := []) (va_runV (C := "java/lang/String") (As := []) (bytes := prog_17_method_154_code) (maxL := 1) (ret := some .boolean) (n := 0) (index := 492) (own := "java/lang/String") ⟨hx, hb, hml, hown, hts⟩ (ct_lat l ad base x hx2) ⟨callB_of 0 hts (am_gw ks_lat) rfl rfl rfl (hts _ is_str) (hts _ ls_chr_1) (by decide +kernel) ⟨Nat.le_of_ble_eq_true rfl, Nat.le_of_ble_eq_true rfl⟩, hts _ ki_lat.1, hts _ ki_lat.2⟩ ⟨am_skb, hrc, fun U hU hW => ⟨rfl, by show am_SK ad base U U.heap; rw [hU]; exact hSK.moved hW.alike⟩⟩ rfl rfl hl.1 rfl (lv_room (Nat.le_of_ble_eq_true rfl)) ds_chr_1 ⟨Nat.le_refl _, Nat.le_refl _⟩) ?_
  refine lv_if_eq (tgt := 16) hx hb ds_chr_4 (by decide) (fun z => absurd z (by decide)) (fun _ => ?_)
  refine lv_aload_n hx hb ds_chr_7 rfl (lv_at hl 0 rfl) ?_
  refine vk_getf hx hb h3.2.2.1 hS hown (hts _ ls_chr_8) (fun _ h => h) ds_chr_8 ?_
  refine lv_iload_n hx hb ds_chr_11 rfl (lv_at hl 1 rfl) ?_
  refine am_conts (w := some (.int ((am_strs x).getD i.toNatClampNeg 0))) (rest := []) (va_runS (As := [.ref (adV (x - 2)), .int i]) (bytes := prog_18_method_2_code) (maxL := 2) (ret := some .char) (n := 2) (index := 495) (own := "java/lang/String") ⟨hx, hb, hml, hown, hts⟩ (ct_lch l ad base x hx2 (adV (x - 2)) i hi) ⟨callB_of 2 hts (am_gw ks_lch) rfl rfl rfl (hts _ is_lat) (hts _ ls_chr_12) (by decide +kernel) ⟨Nat.le_of_ble_eq_true rfl, Nat.le_of_ble_eq_true rfl⟩, hts _ ki_lch⟩ ⟨fun a U g mk h => ⟨h.1, am_SK.moved (u := U) (U := U.calling g mk a) (Vm.Alike.refl U.vm) h.2.1, va_T.moved (u := U) (U := U.calling g mk a) (Vm.Alike.refl U.vm) h.2.2⟩, fun U hU hW => ⟨rfl, by rw [hU]; exact hSK.moved hW.alike, by rw [hU]; exact h3.2.2.2.moved hW.alike⟩⟩ rfl rfl hl.1 rfl (lv_room (Nat.le_of_ble_eq_true rfl)) ds_chr_12 ⟨Nat.le_refl _, Nat.le_refl _⟩) ?_
  have hlen := am_slen x hx2.2
  obtain ⟨j, hj, hij⟩ := vp_in_of hi (by omega)
  have hcl : i.toNatClampNeg = j := by rw [hij]; exact nI_clamp (by omega)
  have hb9 : (am_strs x).getD i.toNatClampNeg 0 ∈ am_strs x := by
    rw [hcl, List.getD_eq_getElem?_getD, List.getElem?_eq_getElem hj]
    exact List.getElem_mem hj
  exact W.zret (ty := .char) hx hb hr (am_asc x hx2.2 _ hb9).2 (fun t ht hW => ⟨rfl, ht⟩) (fun _ h => by cases h) ds_chr_15
