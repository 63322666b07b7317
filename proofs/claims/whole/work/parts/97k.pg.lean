/-! ===== the cells that are made, as a list ===== -/
abbrev cZ : Type := am_Sh × List Nat
def zD : cZ := (.inr (9, 0), [])
def setP : Nat → List Nat → Nat → List Nat
  | 0, [], y => [y]
  | 0, _ :: l, y => y :: l
  | f + 1, [], y => 0 :: setP f [] y
  | f + 1, a :: l, y => a :: setP f l y
theorem setP_get : ∀ (f : Nat) (l : List Nat) (y k : Nat), (setP f l y).getD k 0 = if k = f then y else l.getD k 0
  | 0, [], y, 0 => rfl
  | 0, [], y, k + 1 => by rw [if_neg (by omega)]; rfl
  | 0, _ :: l, y, 0 => rfl
  | 0, _ :: l, y, k + 1 => by rw [if_neg (by omega)]; rfl
  | f + 1, [], y, 0 => by rw [if_neg (by omega)]; rfl
  | f + 1, [], y, k + 1 => by
    show (setP f [] y).getD k 0 = _
    rw [setP_get f [] y k]
    by_cases z : k = f
    · rw [if_pos z, if_pos (by omega)]
    · rw [if_neg z, if_neg (by omega)]; rfl
  | f + 1, a :: l, y, 0 => by rw [if_neg (by omega)]; rfl
  | f + 1, a :: l, y, k + 1 => by
    show (setP f l y).getD k 0 = _
    rw [setP_get f l y k]
    by_cases z : k = f
    · rw [if_pos z, if_pos (by omega)]
    · rw [if_neg z, if_neg (by omega)]; rfl
/-- what no step reads: the references of the cells below 12 -/
def zG (Lx : Nat) (Z : List cZ) : am_G := (fun a k => if a < 12 then (gR0.getD 0 []).getD k 0 else (Z.getD (a - 12) zD).2.getD k 0, fun a => if a = 1 then .inr (8, Lx) else if a < 12 then .inr (9, 0) else (Z.getD (a - 12) zD).1, 12 + Z.length)
section PGL
variable {Lx : Nat} {Z Z0 T Z' T' : List cZ} {s s2 s3 : am_Sh} {c : cZ} {x i j f y N : Nat}
theorem gz_ap (h : i ≠ Z.length) : (Z ++ [c]).getD i zD = Z.getD i zD := by
  rw [List.getD_eq_getElem?_getD, List.getD_eq_getElem?_getD]
  by_cases z : i < Z.length
  · rw [List.getElem?_append_left z]
  · rw [List.getElem?_eq_none (by rw [List.length_append]; show Z.length + 1 ≤ i; omega), List.getElem?_eq_none (by omega)]
theorem gz_r : (Z0 ++ T).getD (Z0.length + j) zD = T.getD j zD := by
  rw [List.getD_eq_getElem?_getD, List.getD_eq_getElem?_getD, List.getElem?_append_right (by omega), show Z0.length + j - Z0.length = j by omega]
theorem gz_at : (Z ++ [c]).getD Z.length zD = c := gz_r (Z0 := Z) (T := [c]) (j := 0)
theorem zG_R {a k : Nat} : (zG Lx Z).1 a k = if a < 12 then (gR0.getD 0 []).getD k 0 else (Z.getD (a - 12) zD).2.getD k 0 := rfl
theorem zG_S {a : Nat} : (zG Lx Z).2.1 a = if a = 1 then .inr (8, Lx) else if a < 12 then .inr (9, 0) else (Z.getD (a - 12) zD).1 := rfl
theorem nwP : am_new (zG Lx Z) s = zG Lx (Z ++ [(s, [])]) := by
  refine Prod.ext ?_ (Prod.ext ?_ ?_)
  · funext a k
    show am_r (zG Lx Z).1 (12 + Z.length) (fun _ => 0) a k = (zG Lx (Z ++ [(s, [])])).1 a k
    rw [zG_R]
    by_cases z : a = 12 + Z.length
    · subst z
      rw [rn_at, if_neg (by omega), show 12 + Z.length - 12 = Z.length by omega, gz_at]; rfl
    · rw [rn_ne z, zG_R]
      by_cases w : a < 12
      · rw [if_pos w, if_pos w]
      · rw [if_neg w, if_neg w, gz_ap (by omega)]
  · funext a
    show am_s (zG Lx Z).2.1 (12 + Z.length) s a = (zG Lx (Z ++ [(s, [])])).2.1 a
    have sne : ∀ {S : Nat → am_Sh} {c y : Nat} {v : am_Sh}, y ≠ c → am_s S c v y = S y := fun h => if_neg h
    have sat : ∀ {S : Nat → am_Sh} {c : Nat} {v : am_Sh}, am_s S c v c = v := if_pos rfl
    rw [zG_S]
    by_cases z : a = 12 + Z.length
    · subst z
      rw [sat, if_neg (by omega), if_neg (by omega), show 12 + Z.length - 12 = Z.length by omega, gz_at]
    · rw [sne z, zG_S]
      by_cases w : a < 12
      · rw [if_pos w, if_pos w]
      · rw [if_neg w, if_neg w, gz_ap (by omega)]
  · show 12 + Z.length + 1 = 12 + (Z ++ [(s, [])]).length
    rw [List.length_append]; rfl
def stZ (Z : List cZ) (i f y : Nat) : List cZ := Z.set i ((Z.getD i zD).1, setP f (Z.getD i zD).2 y)
theorem stP (hx : x = 12 + i) (hi : i < Z.length) : (am_u (zG Lx Z).1 x f y, (zG Lx Z).2) = zG Lx (stZ Z i f y) := by
  have hs : ∀ j, (stZ Z i f y).getD j zD = if j = i then ((Z.getD i zD).1, setP f (Z.getD i zD).2 y) else Z.getD j zD := by
    intro j
    unfold stZ
    rw [List.getD_eq_getElem?_getD, List.getElem?_set]
    by_cases z : j = i
    · subst z; rw [if_pos rfl, if_pos hi, if_pos rfl]; rfl
    · rw [if_neg (fun q => z q.symm), if_neg z, List.getD_eq_getElem?_getD]
  subst hx
  refine Prod.ext ?_ (Prod.ext ?_ ?_)
  · funext a k
    show am_u (zG Lx Z).1 (12 + i) f y a k = (zG Lx (stZ Z i f y)).1 a k
    rw [zG_R]
    by_cases z : a = 12 + i
    · subst z
      rw [if_neg (by omega), show 12 + i - 12 = i by omega, hs, if_pos rfl]
      show _ = (setP f (Z.getD i zD).2 y).getD k 0
      rw [setP_get]
      by_cases w : k = f
      · subst w; rw [am_u_at, if_pos rfl]
      · rw [am_u_nk w, if_neg w, zG_R, if_neg (by omega), show 12 + i - 12 = i by omega]
    · rw [am_u_ne z, zG_R]
      by_cases w : a < 12
      · rw [if_pos w, if_pos w]
      · rw [if_neg w, if_neg w, hs, if_neg (by omega)]
  · funext a
    show (zG Lx Z).2.1 a = (zG Lx (stZ Z i f y)).2.1 a
    rw [zG_S, zG_S, hs]
    by_cases z : a - 12 = i
    · rw [if_pos z, z]
    · rw [if_neg z]
  · show 12 + Z.length = 12 + (stZ Z i f y).length
    unfold stZ; rw [List.length_set]
theorem shP {v : am_Sh} (hx : x = 12 + i) (hv : (Z.getD i zD).1 = v) : (zG Lx Z).2.1 x = v := by
  subst hx; rw [zG_S, if_neg (by omega), if_neg (by omega), show 12 + i - 12 = i by omega]; exact hv
theorem rfP {v : Nat} (hx : x = 12 + i) (hv : (Z.getD i zD).2.getD f 0 = v) : (zG Lx Z).1 x f = v := by
  subst hx; rw [zG_R, if_neg (by omega), show 12 + i - 12 = i by omega]; exact hv
theorem nshP {v : am_Sh} (hx : x = 12 + i) (hv : ((Z ++ [(s, [])]).getD i zD).1 = v) : (am_new (zG Lx Z) s).2.1 x = v := by rw [nwP]; exact shP hx hv
theorem nrfP {v : Nat} (hx : x = 12 + i) (hv : ((Z ++ [(s, [])]).getD i zD).2.getD f 0 = v) : (am_new (zG Lx Z) s).1 x f = v := by rw [nwP]; exact rfP hx hv
theorem shQ {v : am_Sh} (hx : x = 12 + (Z0.length + j)) (hv : (T.getD j zD).1 = v) : (zG Lx (Z0 ++ T)).2.1 x = v := shP hx (by rw [gz_r]; exact hv)
theorem rfQ {v : Nat} (hx : x = 12 + (Z0.length + j)) (hv : (T.getD j zD).2.getD f 0 = v) : (zG Lx (Z0 ++ T)).1 x f = v := rfP hx (by rw [gz_r]; exact hv)
theorem nshQ {v : am_Sh} (hx : x = 12 + (Z0.length + j)) (hv : ((T ++ [(s, [])]).getD j zD).1 = v) : (am_new (zG Lx (Z0 ++ T)) s).2.1 x = v := by rw [nwP, List.append_assoc]; exact shQ hx hv
theorem nrfQ {v : Nat} (hx : x = 12 + (Z0.length + j)) (hv : ((T ++ [(s, [])]).getD j zD).2.getD f 0 = v) : (am_new (zG Lx (Z0 ++ T)) s).1 x f = v := by rw [nwP, List.append_assoc]; exact rfQ hx hv
theorem nnQ (hc : 12 + (Z0.length + T.length) = N) : (zG Lx (Z0 ++ T)).2.2 = N := by
  show 12 + (Z0 ++ T).length = N
  rw [List.length_append]; exact hc
theorem lnQ (hc : 12 + (Z0.length + T.length) = N) : N = 12 + (Z0 ++ T).length := by rw [List.length_append]; exact hc.symm
theorem st_r : stZ (Z0 ++ T) (Z0.length + j) f y = Z0 ++ stZ T j f y := by
  unfold stZ
  rw [gz_r, List.set_append, if_neg (by omega), show Z0.length + j - Z0.length = j by omega]
theorem rzI {I : am_I} (h : I N = fun _ => 0) : am_r I N (fun _ => 0) = I := by
  funext a
  by_cases z : a = N
  · subst z; rw [rn_at, h]
  · rw [rn_ne z]
theorem rzL : am_r am_L0 N (fun _ => 0) = am_L0 := by
  funext a
  by_cases z : a = N
  · subst z; rw [rn_at]; rfl
  · rw [rn_ne z]
variable {P : List am_E} {C : am_C} {e : am_E} {Q K : am_Q} {pc k n : Nat} {ls st : List Value} {I : am_I}
theorem alP (hx : x = 12 + i) (hi : i < (Z ++ [(s, [])]).length) (hc : 12 + Z.length = N) (hI : I N = fun _ => 0) (hT : stZ (Z ++ [(s, [])]) i f N = Z') (h : am_W P C e Q pc ls st I am_L0 (zG Lx Z') k n) : am_W P C e Q pc ls st (am_r I (zG Lx Z).2.2 (fun _ => 0)) (am_r am_L0 (zG Lx Z).2.2 (fun _ => 0)) (am_u (am_new (zG Lx Z) s).1 x f (zG Lx Z).2.2, (am_new (zG Lx Z) s).2) k n := by
  have e1 : (zG Lx Z).2.2 = N := hc
  rw [e1, rzI hI, rzL, nwP, stP hx hi, hT]; exact h
theorem alQ (hx : x = 12 + (Z0.length + j)) (hj : j < (T ++ [(s, [])]).length) (hc : 12 + (Z0.length + T.length) = N) (hI : I N = fun _ => 0) (hT : stZ (T ++ [(s, [])]) j f N = T') (h : am_W P C e Q pc ls st I am_L0 (zG Lx (Z0 ++ T')) k n) : am_W P C e Q pc ls st (am_r I (zG Lx (Z0 ++ T)).2.2 (fun _ => 0)) (am_r am_L0 (zG Lx (Z0 ++ T)).2.2 (fun _ => 0)) (am_u (am_new (zG Lx (Z0 ++ T)) s).1 x f (zG Lx (Z0 ++ T)).2.2, (am_new (zG Lx (Z0 ++ T)) s).2) k n := by
  refine alP (Z := Z0 ++ T) hx (by rw [List.append_assoc, List.length_append]; omega) (lnQ hc).symm hI (Z' := Z0 ++ T') ?_ h
  rw [List.append_assoc, st_r, hT]
theorem swP {f' : Nat} (hx : x = 12 + i) (hi : i < Z.length) (hf : f = f') (hy : y = N) (hT : stZ Z i f' N = Z') (h : am_W P C e Q pc ls st I am_L0 (zG Lx Z') k n) : am_W P C e Q pc ls st I am_L0 (am_u (zG Lx Z).1 x f y, (zG Lx Z).2) k n := by
  subst hf; subst hy
  rw [stP hx hi, hT]; exact h
theorem swQ {f' : Nat} (hx : x = 12 + (Z0.length + j)) (hj : j < T.length) (hf : f = f') (hy : y = N) (hT : stZ T j f' N = T') (h : am_W P C e Q pc ls st I am_L0 (zG Lx (Z0 ++ T')) k n) : am_W P C e Q pc ls st I am_L0 (am_u (zG Lx (Z0 ++ T)).1 x f y, (zG Lx (Z0 ++ T)).2) k n :=
  swP (Z := Z0 ++ T) hx (by rw [List.length_append]; omega) hf hy (Z' := Z0 ++ T') (by rw [st_r, hT]) h
theorem zC {as as' : List Value} (hc : 12 + Z.length = N) (hI : I N = fun _ => 0) (ha : as = as') (h : C i (.ref N :: as') I am_L0 (zG Lx (Z ++ [(s, [])])) K) : C i (.ref (zG Lx Z).2.2 :: as) (am_r I (zG Lx Z).2.2 (fun _ => 0)) (am_r am_L0 (zG Lx Z).2.2 (fun _ => 0)) (am_new (zG Lx Z) s) K := by
  subst ha
  have e1 : (zG Lx Z).2.2 = N := hc
  rw [e1, rzI hI, rzL, nwP]; exact h
theorem mlP : (am_r (am_new (am_new (am_new (zG Lx Z) s) s2) s3).1 (zG Lx Z).2.2 (fun j => if j < 2 then (zG Lx Z).2.2 + 1 + j else 0), (am_new (am_new (am_new (zG Lx Z) s) s2) s3).2) = zG Lx (Z ++ [(s, [12 + Z.length + 1, 12 + Z.length + 2]), (s2, []), (s3, [])]) := by
  have e : am_new (am_new (am_new (zG Lx Z) s) s2) s3 = zG Lx (Z ++ [(s, []), (s2, []), (s3, [])]) := by rw [nwP, nwP, nwP, List.append_assoc, List.append_assoc]; rfl
  rw [e]
  have hl : Z.length < (Z ++ [(s, []), (s2, []), (s3, [])]).length := by rw [List.length_append]; show Z.length < Z.length + 3; omega
  have e0 : (Z ++ [((s, []) : cZ), (s2, []), (s3, [])]).getD Z.length zD = (s, []) := gz_r (Z0 := Z) (T := [(s, []), (s2, []), (s3, [])]) (j := 0)
  have e2 : am_r (zG Lx (Z ++ [(s, []), (s2, []), (s3, [])])).1 (12 + Z.length) (fun j => if j < 2 then 12 + Z.length + 1 + j else 0) = am_u (am_u (zG Lx (Z ++ [(s, []), (s2, []), (s3, [])])).1 (12 + Z.length) 0 (12 + Z.length + 1)) (12 + Z.length) 1 (12 + Z.length + 2) := by
    funext a k
    by_cases z : a = 12 + Z.length
    · subst z
      rw [rn_at]
      by_cases w1 : k = 1
      · subst w1; rw [am_u_at]; rfl
      · rw [am_u_nk w1]
        by_cases w0 : k = 0
        · subst w0; rw [am_u_at]; rfl
        · rw [am_u_nk w0, rfP (i := Z.length) (v := 0) rfl (by rw [e0]; rfl)]
          exact if_neg (by omega)
    · rw [rn_ne z, am_u_ne z, am_u_ne z]
  show (am_r (zG Lx (Z ++ [(s, []), (s2, []), (s3, [])])).1 (12 + Z.length) (fun j => if j < 2 then 12 + Z.length + 1 + j else 0), (zG Lx (Z ++ [(s, []), (s2, []), (s3, [])])).2) = _
  rw [e2]
  have e3 := stP (Lx := Lx) (Z := Z ++ [(s, []), (s2, []), (s3, [])]) (x := 12 + Z.length) (i := Z.length) (f := 0) (y := 12 + Z.length + 1) rfl hl
  have e4 : am_u (zG Lx (Z ++ [(s, []), (s2, []), (s3, [])])).1 (12 + Z.length) 0 (12 + Z.length + 1) = (zG Lx (stZ (Z ++ [(s, []), (s2, []), (s3, [])]) Z.length 0 (12 + Z.length + 1))).1 := by
    have := congrArg Prod.fst e3
    exact this
  have e5 : (zG Lx (Z ++ [(s, []), (s2, []), (s3, [])])).2 = (zG Lx (stZ (Z ++ [(s, []), (s2, []), (s3, [])]) Z.length 0 (12 + Z.length + 1))).2 := by
    have := congrArg Prod.snd e3
    exact this
  rw [e4, e5]
  have e6 : stZ (Z ++ [(s, []), (s2, []), (s3, [])]) Z.length 0 (12 + Z.length + 1) = Z ++ [(s, [12 + Z.length + 1]), (s2, []), (s3, [])] := st_r (j := 0)
  rw [e6, stP (i := Z.length) rfl (by rw [List.length_append]; show Z.length < Z.length + 3; omega)]
  exact congrArg (zG Lx) (st_r (j := 0))
end PGL
