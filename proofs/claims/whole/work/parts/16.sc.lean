theorem am_u_ne {α : Type} {f : Nat → Nat → α} {a k b : Nat} {v : α} (h : b ≠ a) : am_u f a k v b = f b := if_neg h
theorem am_u_at {α : Type} {f : Nat → Nat → α} {a k : Nat} {v : α} : am_u f a k v a k = v := by
  unfold am_u
  rw [if_pos rfl, if_pos rfl]
theorem am_u_nk {α : Type} {f : Nat → Nat → α} {a k j : Nat} {v : α} (h : j ≠ k) : am_u f a k v a j = f a j := by
  unfold am_u
  rw [if_pos rfl, if_neg h]
theorem am_r_ne {α : Type} {f : Nat → Nat → α} {a b : Nat} {g : Nat → α} (h : b ≠ a) : am_r f a g b = f b := if_neg h
theorem am_r_at {α : Type} {f : Nat → Nat → α} {a : Nat} {g : Nat → α} : am_r f a g a = g := if_pos rfl
section AMS
variable {ad : Nat → Nat} {cy : Nat → ClassId} {D : va_G} {base Lx : Nat} {xs : Nat → Int32} {E : am_E} {p : Program} {l : Launch} {v : Env} {R : Room} {s : State} {m : MethodId} {args : Array Value} {below : List Frame} {meth : Method} {c : Code} {QW : State → Prop}
theorem am_s6 (cx : am_Cx ad cy D base Lx xs E p R s m args meth c) : am_r6 E (am_Xs ad cy D base Lx xs E p l v R s m args below meth c QW) := by
  have cx0 := cx
  obtain ⟨hx, hb, hml, hown, hts, hin, ho, hK, had, hbs, hN, hX, hX1, hf, hlo, hc, hs⟩ := cx
  refine ⟨?_, ?_, ?_, ?_, ?_, ?_, ?_, ?_, ?_, ?_, ?_, ?_, ?_, ?_, ?_, ?_, ?_, ?_, ?_, ?_⟩
  · intro pc ls st I L G k n i c f x h hsh kk
    exact am_getg (kd := 0) cx0 h rfl hsh rfl kk
  · intro pc ls st I L G k n i c f x h hsh kk
    exact am_getg (kd := 1) cx0 h rfl hsh rfl kk
  · intro pc ls st I L G k n i c f x h hsh kk
    exact am_getg (kd := 2) cx0 h rfl hsh rfl kk
  · intro pc ls st I L G k n i c f x h hsh kk
    exact am_getg (kd := 3) cx0 h rfl hsh rfl kk
  · intro pc ls st I L G k n i c f x y h hsh kk
    exact am_putg (n := 3) (kd := 0) cx0 h rfl hsh (Or.inl ⟨rfl, y, rfl⟩) rfl (fun b hb => ⟨am_u_ne hb, rfl, rfl⟩) (by show Value.int (am_u I x f y x f) = _; rw [am_u_at]; rfl) (fun j hj => ⟨am_u_nk hj, rfl, rfl⟩) kk
  · intro pc ls st I L G k n i c f x y h hsh kk
    exact am_putg (n := 3) (kd := 1) cx0 h rfl hsh (Or.inr (Or.inl ⟨rfl, y, rfl⟩)) rfl (fun b hb => ⟨rfl, am_u_ne hb, rfl⟩) (by show Value.long (am_u L x f y x f) = _; rw [am_u_at]; rfl) (fun j hj => ⟨rfl, am_u_nk hj, rfl⟩) kk
  · intro pc ls st I L G k n i c f x y h hsh kk
    exact am_putg (n := 3) (kd := 2) (G' := (am_u G.1 x f y, G.2)) cx0 h rfl hsh (Or.inr (Or.inr (Or.inl ⟨rfl, _, rfl⟩))) rfl (fun b hb => ⟨rfl, rfl, am_u_ne hb⟩) (by show va_rf (am_o ad (am_u G.1 x f y x f)) = _; rw [am_u_at]; rfl) (fun j hj => ⟨rfl, rfl, am_u_nk hj⟩) kk
  · intro pc ls st I L G k n i c f x y h hsh hy kk
    exact am_putg (n := 3) (kd := 3) cx0 h rfl hsh (Or.inr (Or.inr (Or.inr ⟨rfl, hy.imp (fun e => by rw [e]; rfl) (fun e => by rw [e]; rfl)⟩))) rfl (fun b hb => ⟨am_u_ne hb, rfl, rfl⟩) (by show Value.int (am_u I x f y x f) = _; rw [am_u_at]; rfl) (fun j hj => ⟨am_u_nk hj, rfl, rfl⟩) kk
  · intro pc ls st I L G k n a b v x N i h hsh hr kk H locs lsv hi
    obtain ⟨g1, g2, g4⟩ := am_arr hi hsh (by omega)
    rw [List.map_cons, List.map_cons, am_tvr ad g1]
    exact va_iald (D := D) (ws := [(ad x, .inl (cy 0, N, .inl (I x)))]) hx hb hK (am_one g4) 0 0 rfl rfl hr (am_dg ho h) (kk H locs lsv hi)
  · intro pc ls st I L G k n a b v x N i h hsh hr kk H locs lsv hi
    obtain ⟨e1, e2⟩ := (hi.2.2.2.2.1.2 x 8 N hsh).2 rfl
    subst e1
    subst e2
    have hl : i.toNatClampNeg < N := Nat.not_le.mp fun q => hr (Or.inr q)
    have kk := kk H locs lsv hi
    rw [hi.2.2.2.2.2.1 _ hl] at kk
    exact va_sld hx hb hX (Nat.lt_of_lt_of_le hX1 hbs) (A := fun q : Nat => base ≤ q) (Nat.not_le.mpr hX1) hi.2.2.2.1 hr (am_dg ho h) kk
  · intro pc ls st I L G k n a b v x N i h hsh hr kk H locs lsv hi
    obtain ⟨g1, g2, g4⟩ := am_arr hi hsh (by omega)
    rw [List.map_cons, List.map_cons, am_tvr ad g1]
    exact va_bald (D := D) (ws := [(ad x, .inl (cy 1, N, .inl (I x)))]) hx hb hK (am_one g4) 0 1 rfl rfl hr (am_dg ho h) (kk H locs lsv hi)
  · intro pc ls st I L G k n a b v x N i h hsh hr kk H locs lsv hi
    obtain ⟨g1, g2, g4⟩ := am_arr hi hsh (by omega)
    rw [List.map_cons, List.map_cons, am_tvr ad g1]
    exact va_zald (D := D) (ws := [(ad x, .inl (cy 2, N, .inl (I x)))]) hx hb hK (am_one g4) 0 2 rfl rfl hr (am_dg ho h) (kk H locs lsv hi)
  · intro pc ls st I L G k n a b v x N i h hsh hr kk H locs lsv hi
    obtain ⟨g1, g2, g4⟩ := am_arr hi hsh (by omega)
    rw [List.map_cons, List.map_cons, am_tvr ad g1]
    exact va_lald (D := D) (ws := [(ad x, .inl (cy 3, N, .inr (.inl (L x))))]) hx hb hK (am_one g4) 0 3 rfl rfl hr (am_dg ho h) (kk H locs lsv hi)
  · intro pc ls st I L G k n a b v x N t i h hsh ht hr kk H locs lsv hi
    have ht := am_blt ht
    obtain ⟨g1, g2, g4⟩ := am_arr hi hsh (by omega)
    rw [List.map_cons, List.map_cons, am_tvr ad g1]
    have hl : i.toNatClampNeg < N := Nat.not_le.mp fun q => hr (Or.inr q)
    have hin' : ¬ (i < 0 ∨ (arrV (cy (t + 4)) N (fun j => va_rf (am_o ad (G.1 x j)))).slots.size ≤ i.toNatClampNeg) := by rw [arrV_size]; exact hr
    have kk := kk H locs lsv hi
    match t, ht with
    | 0, _ => exact W.aald hx hb (ty := .object "LastLoads$Roads") (cell := arrV (cy 4) N (fun j => va_rf (am_o ad (G.1 x j)))) g4 ((hK.2 4 _ rfl).1 N _) rfl (fun h => by cases h) hin' (arrV_read _ _ hl) rfl rfl (am_dg ho h) kk
    | 1, _ => exact W.aald hx hb (ty := .object "LastLoads$Rule") (cell := arrV (cy 5) N (fun j => va_rf (am_o ad (G.1 x j)))) g4 ((hK.2 5 _ rfl).1 N _) rfl (fun h => by cases h) hin' (arrV_read _ _ hl) rfl rfl (am_dg ho h) kk
    | 2, _ => exact W.aald hx hb (ty := .object "LastLoads$State") (cell := arrV (cy 6) N (fun j => va_rf (am_o ad (G.1 x j)))) g4 ((hK.2 6 _ rfl).1 N _) rfl (fun h => by cases h) hin' (arrV_read _ _ hl) rfl rfl (am_dg ho h) kk
    | 3, _ => exact W.aald hx hb (ty := .array .int) (cell := arrV (cy 7) N (fun j => va_rf (am_o ad (G.1 x j)))) g4 ((hK.2 7 _ rfl).1 N _) rfl (fun h => by cases h) hin' (arrV_read _ _ hl) rfl rfl (am_dg ho h) kk
    | t + 4, h => omega
  · intro pc ls st I L G k n a b v x N i y h hsh hr kk H locs lsv hi
    obtain ⟨g1, g2, g4⟩ := am_arr hi hsh (by omega)
    rw [List.map_cons, List.map_cons, List.map_cons, am_tvr ad g1]
    have hin' : ¬ (i < 0 ∨ (arrV (cy 0) N (fun j => .int (I x j))).slots.size ≤ i.toNatClampNeg) := by rw [arrV_size]; exact hr
    refine W.iast hx hb (cell := arrV (cy 0) N (fun j => .int (I x j))) g4 ((hK.2 0 _ rfl).1 N _) (fun h => by cases h) hin' rfl rfl (am_dg ho h) fun H1 e z oq => kk H1 _ lsv (hi.wr had g1 ?_ z oq rfl (fun b hb => ⟨am_u_ne hb, rfl, rfl⟩))
    unfold am_cell
    rw [hsh]
    show H1[ad x]? = some (arrV (cy 0) N (fun j => .int (am_u I x i.toNatClampNeg y x j)))
    rw [e, arrV_store]
    refine congrArg (fun f => some (arrV (cy 0) N f)) (funext fun j => ?_)
    unfold updV
    by_cases hj : j = i.toNatClampNeg
    · rw [if_pos hj, hj, am_u_at]
    · rw [if_neg hj, am_u_nk hj]
  · intro pc ls st I L G k n a b v x N i y h hsh hr kk H locs lsv hi
    obtain ⟨g1, g2, g4⟩ := am_arr hi hsh (by omega)
    rw [List.map_cons, List.map_cons, List.map_cons, am_tvr ad g1]
    have hin' : ¬ (i < 0 ∨ (arrV (cy 1) N (fun j => .int (I x j))).slots.size ≤ i.toNatClampNeg) := by rw [arrV_size]; exact hr
    refine W.bast hx hb (cell := arrV (cy 1) N (fun j => .int (I x j))) g4 ((hK.2 1 _ rfl).1 N _) (fun h => by cases h) hin' rfl rfl (am_dg ho h) fun H1 e z oq => kk H1 _ lsv (hi.wr had g1 ?_ z oq rfl (fun b hb => ⟨am_u_ne hb, rfl, rfl⟩))
    unfold am_cell
    rw [hsh]
    show H1[ad x]? = some (arrV (cy 1) N (fun j => .int (am_u I x i.toNatClampNeg y.toInt8.toInt32 x j)))
    rw [e, arrV_store]
    refine congrArg (fun f => some (arrV (cy 1) N f)) (funext fun j => ?_)
    unfold updV
    by_cases hj : j = i.toNatClampNeg
    · rw [if_pos hj, hj, am_u_at]; rfl
    · rw [if_neg hj, am_u_nk hj]
  · intro pc ls st I L G k n a b v x N i y h hsh hr hy kk H locs lsv hi
    obtain ⟨g1, g2, g4⟩ := am_arr hi hsh (by omega)
    rw [List.map_cons, List.map_cons, List.map_cons, am_tvr ad g1]
    have hin' : ¬ (i < 0 ∨ (arrV (cy 2) N (fun j => .int (I x j))).slots.size ≤ i.toNatClampNeg) := by rw [arrV_size]; exact hr
    refine W.zast hx hb (cell := arrV (cy 2) N (fun j => .int (I x j))) g4 ((hK.2 2 _ rfl).1 N _) (fun h => by cases h) hin' rfl rfl (am_dg ho h) fun H1 e z oq => kk H1 _ lsv (hi.wr had g1 ?_ z oq rfl (fun b hb => ⟨am_u_ne hb, rfl, rfl⟩))
    unfold am_cell
    rw [hsh]
    show H1[ad x]? = some (arrV (cy 2) N (fun j => .int (am_u I x i.toNatClampNeg y x j)))
    rw [e, arrV_store]
    refine congrArg (fun f => some (arrV (cy 2) N f)) (funext fun j => ?_)
    unfold updV
    by_cases hj : j = i.toNatClampNeg
    · rw [if_pos hj, hj, am_u_at]
      rcases hy with rfl | rfl <;> decide
    · rw [if_neg hj, am_u_nk hj]
  · intro pc ls st I L G k n a b v x N i y h hsh hr kk H locs lsv hi
    obtain ⟨g1, g2, g4⟩ := am_arr hi hsh (by omega)
    rw [List.map_cons, List.map_cons, List.map_cons, am_tvr ad g1]
    have hin' : ¬ (i < 0 ∨ (arrV (cy 3) N (fun j => .long (L x j))).slots.size ≤ i.toNatClampNeg) := by rw [arrV_size]; exact hr
    refine W.last hx hb (cell := arrV (cy 3) N (fun j => .long (L x j))) g4 ((hK.2 3 _ rfl).1 N _) (fun h => by cases h) hin' rfl rfl (am_dg ho h) fun H1 e z oq => kk H1 _ lsv (hi.wr had g1 ?_ z oq rfl (fun b hb => ⟨rfl, am_u_ne hb, rfl⟩))
    unfold am_cell
    rw [hsh]
    show H1[ad x]? = some (arrV (cy 3) N (fun j => .long (am_u L x i.toNatClampNeg y x j)))
    rw [e, arrV_store]
    refine congrArg (fun f => some (arrV (cy 3) N f)) (funext fun j => ?_)
    unfold updV
    by_cases hj : j = i.toNatClampNeg
    · rw [if_pos hj, hj, am_u_at]
    · rw [if_neg hj, am_u_nk hj]
  · intro pc ls st I L G k n b v x N t cc i y h hsh ht hys hr kk H locs lsv hi
    have h8 : t < 8 := by omega
    obtain ⟨g1, g2, g4⟩ := am_arr hi hsh h8
    obtain ⟨y1, y2, y3, y4⟩ := am_obj hi hys
    have g5 : va_at D am_cl (ad x, .inl (cy t, N, .inr (.inr (.inr (.inr (fun k => am_o ad (G.1 x k))))))) H := by
      unfold am_ar at g4
      rw [if_neg (by omega), if_neg (by omega)] at g4
      exact g4
    obtain ⟨r, r1, cellV, q1, q2, q3, -⟩ := y4
    have hr' : r = (am_cn cc, am_T cc, am_N cc) := Option.some.inj (r1.symm.trans (am_cl_get y3))
    subst hr'
    have hcls := (hK.1 cc _ (am_cl_get y3)).2
    have htt : ∃ nm, (am_tys cy)[t]? = some (cy t, .object nm) ∧ am_cn cc = nm := by
      rcases ht with ⟨rfl, rfl⟩ | ⟨rfl, rfl⟩ | ⟨rfl, rfl⟩
      · exact ⟨_, rfl, rfl⟩
      · exact ⟨_, rfl, rfl⟩
      · exact ⟨_, rfl, rfl⟩
    obtain ⟨nm, htt, hnm⟩ := htt
    obtain ⟨kA, comp, k1, k2, k3, -⟩ := (hK.2 t _ htt).2
    rw [← hnm] at k3
    have hcomp : comp = D.1 cc := Option.some.inj (k3.symm.trans hcls.1)
    subst hcomp
    have hclas := hcls
    obtain ⟨kC, hkC, -⟩ := hcls.2
    have hl : i.toNatClampNeg < N := Nat.not_le.mp fun q => hr (Or.inr q)
    have h0 : ¬ i < 0 := fun q => hr (Or.inl q)
    rw [List.map_cons, List.map_cons, List.map_cons, am_tvr ad g1, am_tvr ad y1]
    refine W.aast hx hb (cell := arrV (cy t) N (fun j => va_rf (am_o ad (G.1 x j)))) g5 (fun q h => by cases h) (fun h => by cases h) k1 k2 rfl hkC ⟨h0, by rw [arrV_size]; exact hl⟩ q1 (fun q h => by rw [q3] at h; cases h) (by rw [q2]; exact hkC) (by rw [q2]; exact va_assign hclas) rfl rfl (am_dg ho h) fun H1 e z oq => kk H1 _ lsv (hi.wr had g1 ?_ z oq rfl (fun b hb => ⟨rfl, rfl, am_u_ne hb⟩))
    unfold am_cell
    rw [hsh]
    show H1[ad x]? = some (vp_cell (cy t) (am_ar ad t N (I x) (L x) (am_u G.1 x i.toNatClampNeg y x)))
    unfold am_ar
    rw [if_neg (by omega), if_neg (by omega)]
    show H1[ad x]? = some (arrV (cy t) N (fun j => va_rf (am_o ad (am_u G.1 x i.toNatClampNeg y x j))))
    rw [e, arrV_store]
    refine congrArg (fun f => some (arrV (cy t) N f)) (funext fun j => ?_)
    unfold updV
    by_cases hj : j = i.toNatClampNeg
    · rw [if_pos hj, hj, am_u_at]
      exact (am_tvr ad y1).symm
    · rw [if_neg hj, am_u_nk hj]
  · intro pc ls st I L G k n a b v x N t w h hsh ht hw kk H locs lsv hi
    have ht := am_blt ht
    subst hw
    by_cases h8 : t < 8
    · obtain ⟨g1, g2, g4⟩ := am_arr hi hsh h8
      rw [List.map_cons, am_tvr ad g1]
      have htt : ∃ ty, (am_tys cy)[t]? = some (cy t, ty) := by
        match t, h8 with
        | 0, _ => exact ⟨_, rfl⟩
        | 1, _ => exact ⟨_, rfl⟩
        | 2, _ => exact ⟨_, rfl⟩
        | 3, _ => exact ⟨_, rfl⟩
        | 4, _ => exact ⟨_, rfl⟩
        | 5, _ => exact ⟨_, rfl⟩
        | 6, _ => exact ⟨_, rfl⟩
        | 7, _ => exact ⟨_, rfl⟩
        | t + 8, h => omega
      obtain ⟨ty, htt⟩ := htt
      exact va_alen (D := D) (ws := [(ad x, .inl (cy t, am_ar ad t N (I x) (L x) (G.1 x)))]) hx hb hK (am_one g4) 0 t rfl htt rfl (am_dg ho h) (kk H locs lsv hi)
    · have h9 : t = 8 := by omega
      subst h9
      obtain ⟨e1, e2⟩ := (hi.2.2.2.2.1.2 x 8 N hsh).2 rfl
      subst e1
      subst e2
      exact va_slen hx hb hX (Nat.lt_of_lt_of_le hX1 hbs) (A := fun q : Nat => base ≤ q) (Nat.not_le.mpr hX1) hi.2.2.2.1 (am_dg ho h) (kk H locs lsv hi)
end AMS
