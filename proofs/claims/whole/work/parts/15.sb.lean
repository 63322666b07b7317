def am_tyok : FieldType → Bool
  | .int => true
  | .long => true
  | .boolean => true
  | .object _ => true
  | .array _ => true
  | _ => false
theorem am_ty_which : ∀ c, c < 12 → ∀ k, k < am_N c → am_tyok (am_ty c k) = true := by
  intro c hc
  match c, hc with
  | 0, _ => exact (by decide +kernel)
  | 1, _ => exact (by decide +kernel)
  | 2, _ => exact (by decide +kernel)
  | 3, _ => exact (by decide +kernel)
  | 4, _ => exact (by decide +kernel)
  | 5, _ => exact (by decide +kernel)
  | 6, _ => exact (by decide +kernel)
  | 7, _ => exact (by decide +kernel)
  | 8, _ => exact (by decide +kernel)
  | 9, _ => exact (by decide +kernel)
  | 10, _ => exact (by decide +kernel)
  | 11, _ => exact (by decide +kernel)
  | c + 12, h => omega
theorem am_decl : ∀ c, c < 12 → ∀ k, k < am_N c → (am_T c k).1 = am_cn c := by
  intro c hc
  match c, hc with
  | 0, _ => exact (by decide +kernel)
  | 1, _ => exact (by decide +kernel)
  | 2, _ => exact (by decide +kernel)
  | 3, _ => exact (by decide +kernel)
  | 4, _ => exact (by decide +kernel)
  | 5, _ => exact (by decide +kernel)
  | 6, _ => exact (by decide +kernel)
  | 7, _ => exact (by decide +kernel)
  | 8, _ => exact (by decide +kernel)
  | 9, _ => exact (by decide +kernel)
  | 10, _ => exact (by decide +kernel)
  | 11, _ => exact (by decide +kernel)
  | c + 12, h => omega
section AMS
variable {ad : Nat → Nat} {cy : Nat → ClassId} {D : va_G} {base Lx : Nat} {xs : Nat → Int32} {E : am_E} {p : Program} {l : Launch} {v : Env} {R : Room} {s : State} {m : MethodId} {args : Array Value} {below : List Frame} {meth : Method} {c : Code} {QW : State → Prop}
/-- an object that is told: where it lies, and what it holds -/
theorem am_obj {ls : List Value} {I : am_I} {L : am_L} {G : am_G} {H : Heap} {locs : List Loc} {lsv : Array Slot} (h : am_In ad cy D base Lx xs E s ls I L G H locs lsv) {x c : Nat} (hx : G.2.1 x = .inl c) : 12 ≤ x ∧ x < G.2.2 ∧ c < 12 ∧ va_at D am_cl (ad x, .inr (c, am_fs ad c (I x) (L x) (G.1 x))) H := by
  obtain ⟨h1, h2, h3⟩ := h.2.2.2.2.1.1 x c hx
  have h4 := h.2.2.1 x h1 h2
  unfold am_cell at h4
  rw [hx] at h4
  exact ⟨h1, h2, h3, h4⟩
theorem am_arr {ls : List Value} {I : am_I} {L : am_L} {G : am_G} {H : Heap} {locs : List Loc} {lsv : Array Slot} (h : am_In ad cy D base Lx xs E s ls I L G H locs lsv) {x t N : Nat} (hx : G.2.1 x = .inr (t, N)) (ht : t < 8) : 12 ≤ x ∧ x < G.2.2 ∧ va_at D am_cl (ad x, .inl (cy t, am_ar ad t N (I x) (L x) (G.1 x))) H := by
  obtain ⟨h1, h2⟩ := (h.2.2.2.2.1.2 x t N hx).1 ht
  have h4 := h.2.2.1 x h1 h2
  unfold am_cell at h4
  rw [hx] at h4
  exact ⟨h1, h2, h4⟩
/-- a step that wrote one cell -/
theorem am_In.wr {ls : List Value} {I I' : am_I} {L L' : am_L} {G G' : am_G} {H H1 : Heap} {locs : List Loc} {lsv : Array Slot} {k : Nat} (had : ∀ i, ad (i + 12) = base + i) (h : am_In ad cy D base Lx xs E s ls I L G H locs lsv) {a : Nat} (ha : 12 ≤ a) (he : va_at D am_cl (ad a, am_cell ad cy I' L' G' a) H1) (z : H1.size = H.size) (oq : ∀ q, q ≠ ad a → H1[q]? = H[q]?) (hn : G'.2 = G.2) (ho : ∀ b, b ≠ a → I' b = I b ∧ L' b = L b ∧ G'.1 b = G.1 b) : am_In ad cy D base Lx xs E s ls I' L' G' H1 (locs ++ [⟨ad a, k⟩]) lsv := by
  obtain ⟨h1, h2, h3, h4, h5, h6, h7⟩ := h
  refine ⟨by rw [z, hn]; exact h1, by rw [hn]; exact h2, am_hp_set had h3 ha he oq (by rw [hn]) (fun b hb => ?_), h4.put z oq (by have := am_ad had ha; omega), ?_, fun j hj => ?_, h7⟩
  · obtain ⟨e1, e2, e3⟩ := ho b hb
    unfold am_cell
    rw [e1, e2, e3, hn]
  · unfold am_wf
    rw [hn]
    exact h5
  · rw [(ho 1 (by omega)).1]
    exact h6 j hj
theorem am_fv_u {R0 : Nat → Nat} {I0 : Nat → Int32} {L0 : Nat → Int64} {kd k : Nat} {w : Value} {I1 : Nat → Int32} {L1 : Nat → Int64} {R1 : Nat → Nat} {cc : Nat} (hk : (am_fk cc)[k]? = some kd) (hw : am_fv ad I1 L1 R1 kd k = w) (hI : ∀ j, j ≠ k → I1 j = I0 j) (hL : ∀ j, j ≠ k → L1 j = L0 j) (hR : ∀ j, j ≠ k → R1 j = R0 j) : (am_fs ad cc I0 L0 R0).set k w = am_fs ad cc I1 L1 R1 := by
  have hl : k < am_N cc := (List.getElem?_eq_some_iff.mp hk).1
  apply List.ext_getElem?
  intro j
  by_cases hj : j = k
  · subst hj
    rw [List.getElem?_set_self (by rw [am_fs_len]; exact hl), am_fs_get hk, hw]
  · rw [List.getElem?_set_ne (Ne.symm hj)]
    unfold am_fs
    rw [List.getElem?_map, List.getElem?_map]
    by_cases hjl : j < am_N cc
    · rw [List.getElem?_range hjl]
      show some (am_fv ad I0 L0 R0 ((am_fk cc).getD j 0) j) = some (am_fv ad I1 L1 R1 ((am_fk cc).getD j 0) j)
      unfold am_fv
      rw [hI j hj, hL j hj, hR j hj]
    · rw [List.getElem?_eq_none (by rw [List.length_range]; omega)]
      rfl
theorem am_nar {cc k : Nat} (hc : cc < 12) {kd : Nat} (hk : (am_fk cc)[k]? = some kd) {w : Value} (h : (kd = 0 ∧ ∃ x, w = .int x) ∨ (kd = 1 ∧ ∃ x, w = .long x) ∨ (kd = 2 ∧ ∃ x, w = va_rf x) ∨ (kd = 3 ∧ (w = .int 0 ∨ w = .int 1))) : narrow (am_ty cc k) w = w ∧ fits (am_ty cc k) w = true := by
  have hl : k < am_N cc := (List.getElem?_eq_some_iff.mp hk).1
  have h1 := am_kd_ok cc hc k hl
  rw [hk] at h1
  have h2 := Option.some.inj h1
  cases ht : am_ty cc k with
  | int =>
    rw [ht] at h2
    subst h2
    rcases h with ⟨-, x, rfl⟩ | ⟨h, -⟩ | ⟨h, -⟩ | ⟨h, -⟩
    · exact ⟨rfl, rfl⟩
    · cases h
    · cases h
    · cases h
  | long =>
    rw [ht] at h2
    subst h2
    rcases h with ⟨h, -⟩ | ⟨-, x, rfl⟩ | ⟨h, -⟩ | ⟨h, -⟩
    · cases h
    · exact ⟨rfl, rfl⟩
    · cases h
    · cases h
  | boolean =>
    rw [ht] at h2
    subst h2
    rcases h with ⟨h, -⟩ | ⟨h, -⟩ | ⟨h, -⟩ | ⟨-, rfl | rfl⟩
    · cases h
    · cases h
    · cases h
    · exact ⟨by decide, by decide⟩
    · exact ⟨by decide, by decide⟩
  | object nm =>
    rw [ht] at h2
    subst h2
    rcases h with ⟨h, -⟩ | ⟨h, -⟩ | ⟨-, x, rfl⟩ | ⟨h, -⟩
    · cases h
    · cases h
    · cases x <;> exact ⟨rfl, rfl⟩
    · cases h
  | array t =>
    rw [ht] at h2
    subst h2
    rcases h with ⟨h, -⟩ | ⟨h, -⟩ | ⟨-, x, rfl⟩ | ⟨h, -⟩
    · cases h
    · cases h
    · cases x <;> exact ⟨rfl, rfl⟩
    · cases h
  | _ =>
    exfalso
    have h9 := am_ty_which cc hc k hl
    rw [ht] at h9
    cases h9
/-- a field is written: any kind -/
theorem am_putg (cx : am_Cx ad cy D base Lx xs E p R s m args meth c) {pc i n : Nat} {cc k kd : Nat} {vi : Int} {ls st : List Value} {I I' : am_I} {L L' : am_L} {G G' : am_G} {kc ks x : Nat} {w : Value} (h : am_at E pc = some (.putfield i, 3, cc, k, vi)) (hv : vi = (kd : Int)) (hsh : G.2.1 x = .inl cc) (hw : (kd = 0 ∧ ∃ x, am_tv ad w = .int x) ∨ (kd = 1 ∧ ∃ x, am_tv ad w = .long x) ∨ (kd = 2 ∧ ∃ x, am_tv ad w = va_rf x) ∨ (kd = 3 ∧ (am_tv ad w = .int 0 ∨ am_tv ad w = .int 1)))
    (hn : G'.2 = G.2) (ho : ∀ b, b ≠ x → I' b = I b ∧ L' b = L b ∧ G'.1 b = G.1 b) (hf : am_fv ad (I' x) (L' x) (G'.1 x) kd k = am_tv ad w) (h1 : ∀ j, j ≠ k → I' x j = I x j ∧ L' x j = L x j ∧ G'.1 x j = G.1 x j)
    (kk : am_Xs ad cy D base Lx xs E p l v R s m args below meth c QW (pc + 3) ls st I' L' G' kc ks) : am_Xs ad cy D base Lx xs E p l v R s m args below meth c QW pc ls (w :: .ref x :: st) I L G kc ks := by
  obtain ⟨hx, hb, hml, hown, hts, hin, hok, hK, had, hbs, hN, hX, hX1, hfr, hlo, hc, hs⟩ := cx
  intro H locs lsv hi
  obtain ⟨hl, hkd, hfin⟩ := am_pf hok h
  have hkd := am_kd hkd hv
  have hlt : k < am_N cc := (List.getElem?_eq_some_iff.mp hkd).1
  obtain ⟨g1, g2, g3, g4⟩ := am_obj hi hsh
  obtain ⟨hnr, hft⟩ := am_nar g3 hkd hw
  have hcl := am_cl_get g3
  have hap := va_apart (own := am_cn (am_own E)) hts (am_uws_g g3) (am_ty cc) (am_ty_ok cc g3) (am_nm_ok cc g3) hK hcl
  obtain ⟨r, r1, cell, q1, q2, q3, q4⟩ := g4
  have hr : r = (am_cn cc, am_T cc, am_N cc) := Option.some.inj (r1.symm.trans hcl)
  subst hr
  obtain ⟨hS, hfc, kC, hkC, hkind⟩ := hK.1 cc _ hcl
  obtain ⟨cf, kf, fi, f, hfi, hsl⟩ := hS k hlt
  have hlay := hts _ (am_uws_g g3 _ (u_in_lay hlt))
  have hst := (u_facts hfc hkC (u_lays hts (am_uws_g g3) hlt) hfi).1
  have hd := am_ty_ok cc g3 k hlt
  have e0 : (am_fs ad cc (I x) (L x) (G.1 x)).set k (am_tv ad w) = am_fs ad cc (I' x) (L' x) (G'.1 x) := am_fv_u hkd hf (fun j hj => (h1 j hj).1) (fun j hj => (h1 j hj).2.1) (fun j hj => (h1 j hj).2.2)
  have fin : ∀ H' : Heap, H'[ad x]? = some (cell.setSlot f.slot (am_tv ad w)) → H'.size = H.size → (∀ q, q ≠ ad x → H'[q]? = H[q]?) → W p l v R s m args below meth c H' (locs ++ [⟨ad x, f.slot⟩]) kc ks QW (F0 m (pc + 3) lsv (st.map (am_tv ad))) := by
    intro H' e1 e2 e3
    refine kk H' _ lsv (hi.wr had g1 ?_ e2 e3 hn ho)
    unfold am_cell
    rw [hn, hsh]
    rw [hsl] at e1
    refine ⟨_, hcl, ?_⟩
    show t_OB (ad x) (D.1 cc) (am_N cc) (D.2 cc) H' (vp_V (am_fs ad cc (I' x) (L' x) (G'.1 x)))
    rw [← e0]
    exact t_OB.to (V := updV (vp_V (am_fs ad cc (I x) (L x) (G.1 x))) k (am_tv ad w)) ⟨_, e1, q2, q3, t_set q4 hap hlt (am_tv ad w)⟩ (fun j _ => vp_updV_set (by rw [am_fs_len]; exact hlt) (am_tv ad w) j)
  rw [List.map_cons, List.map_cons, am_tvr ad g1]
  cases hfb : (am_T cc k).2.2.2 with
  | false =>
    unfold u_lay at hlay
    rw [if_neg (by rw [hfb]; decide)] at hlay
    have h6 := u_store hfc hkC hkind hlay hfi hd hnr hft
    exact W.putK hx hb (f := f) ⟨hown, hts _ hl, ⟨_, _, _, hfi⟩, hst⟩ (by rw [q2]; exact h6) q1 q3 (by rw [hsl]; exact k2_hasslot (q4 k hlt)) rfl rfl (am_dg hok h) fin
  | true =>
    rcases hfin with z | ⟨z1, z2⟩
    · rw [hfb] at z; cases z
    · unfold u_lay at hlay
      rw [if_pos hfb] at hlay
      have hdecl : (am_T cc k).1 = am_cn cc := am_decl cc g3 k hlt
      have hcf : m.cls = cf := by
        obtain ⟨_, _, c', _, _, _, -, -, hf', -, -, -, hown2, -⟩ := Cond.laysFinal_spec hlay
        have e1 : c' = cf := by have := hfi.symm.trans hf'; simp at this; exact this.1.symm
        rw [hdecl, ← z2] at hown2
        rw [← e1]; exact Option.some.inj (hown.symm.trans hown2)
      have h6 := u_fits hfc hkC hkind (Or.inr hlay) hfi hd hnr hft
      exact W.putFinK hx hb hown (hts _ hl) hfi hst hcf (hin z1) (by rw [q2]; exact h6) q1 q3 (by rw [hsl]; exact k2_hasslot (q4 k hlt)) rfl rfl (am_dg hok h) fin
/-- a field is read: any kind -/
theorem am_getg (cx : am_Cx ad cy D base Lx xs E p R s m args meth c) {pc i : Nat} {cc k kd : Nat} {vi : Int} {ls st : List Value} {I : am_I} {L : am_L} {G : am_G} {kc ks x : Nat} {w : Value} (h : am_at E pc = some (.getfield i, 3, cc, k, vi)) (hv : vi = (kd : Int)) (hsh : G.2.1 x = .inl cc) (hf : am_fv ad (I x) (L x) (G.1 x) kd k = am_tv ad w)
    (kk : am_Xs ad cy D base Lx xs E p l v R s m args below meth c QW (pc + 3) ls (w :: st) I L G kc ks) : am_Xs ad cy D base Lx xs E p l v R s m args below meth c QW pc ls (.ref x :: st) I L G kc ks := by
  obtain ⟨hx, hb, hml, hown, hts, hin, hok, hK, had, hbs, hN, hX, hX1, hfr, hlo, hc, hs⟩ := cx
  intro H locs lsv hi
  obtain ⟨hl, hkd⟩ := am_gf hok h
  have hkd := am_kd hkd hv
  have hlt : k < am_N cc := (List.getElem?_eq_some_iff.mp hkd).1
  obtain ⟨g1, g2, g3, g4⟩ := am_obj hi hsh
  rw [List.map_cons, am_tvr ad g1]
  have kk := kk H locs lsv hi
  rw [List.map_cons, ← hf] at kk
  exact va_get (D := D) (ws := [(ad x, .inr (cc, am_fs ad cc (I x) (L x) (G.1 x)))]) (own := am_cn (am_own E)) (ref := (am_T cc k).1) (C := am_cn cc) (T := am_T cc) (N := am_N cc) (ci := cc) (Ts := lw_g) hx hb hts (am_uws_g g3) hown hK (am_one g4) 0 rfl (am_cl_get g3) k hlt (hts _ hl) (fun _ h => h) (am_fs_get hkd) (am_dg hok h) kk
end AMS
