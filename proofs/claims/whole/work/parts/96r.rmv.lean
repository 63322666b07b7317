/-! ===== rule: the reference's values ===== -/
theorem wIx_w {B : Nat → Nat} {t q : Nat} : ∀ (ws : List (List Nat)) (j i l : Nat), wIx B t q ws j = some (i, l) → ∃ w, w ∈ ws ∧ l = w.length ∧ isW B t q w = true := by
  intro ws
  induction ws with
  | nil => intro j i l h; exact absurd h (by simp [wIx])
  | cons w ws ih =>
    intro j i l h
    rw [wIx] at h
    split at h
    · rename_i z
      injection h with h; injection h with h1 h2
      exact ⟨w, by simp, h2.symm, z⟩
    · obtain ⟨w', a, b, c⟩ := ih (j + 1) i l h
      exact ⟨w', by simp [a], b, c⟩
def frV (tx : Nat) (I I' : am_I) : Prop := frm [188, 189] [14, 15, 16, 18] I I' ∧ ∀ i, i < 400 * tx → I' 188 i = I 188 i
theorem frV.rf {tx : Nat} {I : am_I} : frV tx I I := ⟨frm.rf, fun _ _ => rfl⟩
theorem frV.tr {tx : Nat} {I I' I2 : am_I} (h : frV tx I I') (g : frV tx I' I2) : frV tx I I2 := ⟨h.1.tr g.1, fun i hi => (g.2 i hi).trans (h.2 i hi)⟩
theorem frV.T {tx : Nat} {I I' : am_I} {B : Nat → Nat} {t : Nat} (h : frV tx I I') (hT : tpM I B t) : tpM I' B t := tpM_fr h.1 (by decide) (by decide) hT
theorem frV.F {tx : Nat} {F : List Nat} {I I' : am_I} (h : frF F I I') (hF : ∀ k ∈ F, k ∈ [14, 15, 16, 18]) : frV tx I I' := ⟨frm.w h (fun _ z => absurd z (List.not_mem_nil)) hF, fun i _ => by rw [h.1 188 (by decide) (List.not_mem_nil)]⟩
def pmR (I : am_I) (p v tx : Nat) (T : List Nat) : Prop := mcu I p 0 ∧ I 186 17 = nI tx ∧ tx ≤ 5 ∧ I 186 18 = nI v ∧ I 189 tx = nI T.length ∧ segAt (I 188) (400 * tx) T
theorem pmR_F {F : List Nat} {I I' : am_I} {p q v tx : Nat} {T : List Nat} (h : frF F I I') (hF : 17 ∉ F ∧ 18 ∉ F) (hc : mcu I' q 0) (hs : pmR I p v tx T) : pmR I' q v tx T :=
  ⟨hc, by rw [h.2 17 hF.1]; exact hs.2.1, hs.2.2.1, by rw [h.2 18 hF.2]; exact hs.2.2.2.1, by rw [h.1 189 (by decide) (List.not_mem_nil)]; exact hs.2.2.2.2.1, by rw [h.1 188 (by decide) (List.not_mem_nil)]; exact hs.2.2.2.2.2⟩
theorem put_o {I : am_I} {p v tx : Nat} {T : List Nat} (h : pmR I p v tx T) (hl : T.length < 400) : vp_in (I 186 17) 7 ∧ vp_in ((400 * (I 186 17)) + (I 189 (Int32.toNatClampNeg (I 186 17)))) 2400 := by
  obtain ⟨h1, h2, h3, h4, h5, h6⟩ := h
  rw [h2, nI_clamp (by omega), h5, show (400 : Int32) * nI tx = nI (400 * tx) from pk_mul 400 tx, nI_add]
  exact ⟨vp_in_nI (by omega) (by decide), vp_in_nI (by omega) (by decide)⟩
theorem put_ok {I : am_I} {p v tx tok : Nat} {x y : Int32} {T : List Nat} (h : pmR I p v tx T) (hl : T.length < 400) (hx : x + 16 * y = nI tok) : pmR (mPut I x y) p v tx (T ++ [tok]) ∧ frV tx I (mPut I x y) := by
  obtain ⟨h1, h2, h3, h4, h5, h6⟩ := h
  have e : mPut I x y = am_u (am_u I 188 (400 * tx + T.length) (nI tok)) 189 tx (nI (T.length + 1)) := by
    unfold mPut
    rw [h2, nI_clamp (by omega), h5, show (400 : Int32) * nI tx = nI (400 * tx) from pk_mul 400 tx, nI_add, nI_clamp (by omega), hx, nI_1]
  rw [e]
  refine ⟨⟨⟨?_, ?_⟩, ?_, h3, ?_, ?_, ?_⟩, (frm.rf.u (by simp) (by decide)).u (by simp) (by decide), fun i hi => ?_⟩
  · rw [am_u_ne (by decide), am_u_ne (by decide)]; exact h1.1
  · rw [am_u_ne (by decide), am_u_ne (by decide)]; exact h1.2
  · rw [am_u_ne (by decide), am_u_ne (by decide)]; exact h2
  · rw [am_u_ne (by decide), am_u_ne (by decide)]; exact h4
  · rw [am_u_at, List.length_append]; rfl
  · rw [am_u_ne (by decide), segAt_app]
    refine ⟨segAt_congr (fun i h1 h2 => am_u_nk (by omega)) h6, am_u_at, trivial⟩
  · rw [am_u_ne (by decide), am_u_nk (by omega)]
section RMV
variable {d Lx : Nat} {ρ : List (Nat × Nat)} {Q : am_Q}
theorem sp_wordHere {I : am_I} {L : am_L} {B : Nat → Nat} {t p e : Nat} (hT : tpM I B t) (hp : p ≤ t) (hc : mcu I p e)
    (h1 : ∀ i l, wIx B t (sk B t p) wds 0 = some (i, l) → ∀ I', frF [14] I I' → mcu I' (sk B t p) e → Q (some (.int (nI i))) I' L (gg Lx ρ))
    (h0 : wIx B t (sk B t p) wds 0 = none → ∀ I', frF [14] I I' → mcu I' (sk B t p) e → Q (some (.int (-1))) I' L (gg Lx ρ)) : am_run (d + 3) m_Model_wordHere [.ref 186] I L (gg Lx ρ) Q := by
  have ht := hT.2.1
  have hk := (sk_le (B := B) hp).2
  have hid := sk_id (B := B) hp ht
  refine run_in rfl rfl ⟨rfl, rfl⟩ (sz_Model_wordHere_0 ?_)
  refine sp_isWord (w := [114, 111, 97, 100]) hT hp (by decide) (by decide) (show (1919902052 : Int64) = lN (pack [114, 111, 97, 100]) by decide) hc (fun I1 f1' c1 => ?_)
  have f1 : frF [14] I I1 := f1'
  have hT1 := tpM_fr f1 (by decide) (by decide) hT
  by_cases y1 : isW B t (sk B t p) [114, 111, 97, 100] = true
  · exact sz_Model_wordHere_7 _ (fun z => absurd y1 (bI0 z)) (fun _ => h1 0 4 (by unfold wds; rw [wIx, if_pos y1]; rfl) I1 f1 c1)
  refine sz_Model_wordHere_7 _ (fun _ => ?_) (fun z => absurd (bI_f y1) z)
  refine sp_isWord (w := [100, 97, 121, 115]) hT1 hk (by decide) (by decide) (show (1684109683 : Int64) = lN (pack [100, 97, 121, 115]) by decide) c1 (fun I2 f2' c2 => ?_)
  rw [hid] at c2 ⊢
  have f2 : frF [14] I I2 := f1.tr f2'
  have hT2 := tpM_fr f2 (by decide) (by decide) hT
  by_cases y2 : isW B t (sk B t p) [100, 97, 121, 115] = true
  · exact sz_Model_wordHere_19 _ (fun z => absurd y2 (bI0 z)) (fun _ => h1 1 4 (by unfold wds; rw [wIx, if_neg y1, wIx, if_pos y2]; rfl) I2 f2 c2)
  refine sz_Model_wordHere_19 _ (fun _ => ?_) (fun z => absurd (bI_f y2) z)
  refine sp_isWord (w := [108, 97, 115, 116]) hT2 hk (by decide) (by decide) (show (1818325876 : Int64) = lN (pack [108, 97, 115, 116]) by decide) c2 (fun I3 f3' c3 => ?_)
  rw [hid] at c3 ⊢
  have f3 : frF [14] I I3 := f2.tr f3'
  have hT3 := tpM_fr f3 (by decide) (by decide) hT
  by_cases y3 : isW B t (sk B t p) [108, 97, 115, 116] = true
  · exact sz_Model_wordHere_31 _ (fun z => absurd y3 (bI0 z)) (fun _ => h1 2 4 (by unfold wds; rw [wIx, if_neg y1, wIx, if_neg y2, wIx, if_pos y3]; rfl) I3 f3 c3)
  refine sz_Model_wordHere_31 _ (fun _ => ?_) (fun z => absurd (bI_f y3) z)
  refine sp_isWord (w := [107, 105, 110, 100]) hT3 hk (by decide) (by decide) (show (1802071652 : Int64) = lN (pack [107, 105, 110, 100]) by decide) c3 (fun I4 f4' c4 => ?_)
  rw [hid] at c4 ⊢
  have f4 : frF [14] I I4 := f3.tr f4'
  have hT4 := tpM_fr f4 (by decide) (by decide) hT
  by_cases y4 : isW B t (sk B t p) [107, 105, 110, 100] = true
  · exact sz_Model_wordHere_43 _ (fun z => absurd y4 (bI0 z)) (fun _ => h1 3 4 (by unfold wds; rw [wIx, if_neg y1, wIx, if_neg y2, wIx, if_neg y3, wIx, if_pos y4]; rfl) I4 f4 c4)
  refine sz_Model_wordHere_43 _ (fun _ => ?_) (fun z => absurd (bI_f y4) z)
  refine sp_isWord (w := [102, 114, 111, 109]) hT4 hk (by decide) (by decide) (show (1718775661 : Int64) = lN (pack [102, 114, 111, 109]) by decide) c4 (fun I5 f5' c5 => ?_)
  rw [hid] at c5 ⊢
  have f5 : frF [14] I I5 := f4.tr f5'
  have hT5 := tpM_fr f5 (by decide) (by decide) hT
  by_cases y5 : isW B t (sk B t p) [102, 114, 111, 109] = true
  · exact sz_Model_wordHere_55 _ (fun z => absurd y5 (bI0 z)) (fun _ => h1 4 4 (by unfold wds; rw [wIx, if_neg y1, wIx, if_neg y2, wIx, if_neg y3, wIx, if_neg y4, wIx, if_pos y5]; rfl) I5 f5 c5)
  refine sz_Model_wordHere_55 _ (fun _ => ?_) (fun z => absurd (bI_f y5) z)
  refine sp_isWord (w := [116, 111]) hT5 hk (by decide) (by decide) (show (29807 : Int64) = lN (pack [116, 111]) by decide) c5 (fun I6 f6' c6 => ?_)
  rw [hid] at c6 ⊢
  have f6 : frF [14] I I6 := f5.tr f6'
  have hT6 := tpM_fr f6 (by decide) (by decide) hT
  by_cases y6 : isW B t (sk B t p) [116, 111] = true
  · exact sz_Model_wordHere_67 _ (fun z => absurd y6 (bI0 z)) (fun _ => h1 5 2 (by unfold wds; rw [wIx, if_neg y1, wIx, if_neg y2, wIx, if_neg y3, wIx, if_neg y4, wIx, if_neg y5, wIx, if_pos y6]; rfl) I6 f6 c6)
  refine sz_Model_wordHere_67 _ (fun _ => ?_) (fun z => absurd (bI_f y6) z)
  refine sp_isWord (w := [114, 117, 110, 115]) hT6 hk (by decide) (by decide) (show (1920298611 : Int64) = lN (pack [114, 117, 110, 115]) by decide) c6 (fun I7 f7' c7 => ?_)
  rw [hid] at c7 ⊢
  have f7 : frF [14] I I7 := f6.tr f7'
  have hT7 := tpM_fr f7 (by decide) (by decide) hT
  by_cases y7 : isW B t (sk B t p) [114, 117, 110, 115] = true
  · exact sz_Model_wordHere_79 _ (fun z => absurd y7 (bI0 z)) (fun _ => h1 6 4 (by unfold wds; rw [wIx, if_neg y1, wIx, if_neg y2, wIx, if_neg y3, wIx, if_neg y4, wIx, if_neg y5, wIx, if_neg y6, wIx, if_pos y7]; rfl) I7 f7 c7)
  refine sz_Model_wordHere_79 _ (fun _ => ?_) (fun z => absurd (bI_f y7) z)
  refine sp_isWord (w := [97, 108, 108]) hT7 hk (by decide) (by decide) (show (6384748 : Int64) = lN (pack [97, 108, 108]) by decide) c7 (fun I8 f8' c8 => ?_)
  rw [hid] at c8 ⊢
  have f8 : frF [14] I I8 := f7.tr f8'
  have hT8 := tpM_fr f8 (by decide) (by decide) hT
  by_cases y8 : isW B t (sk B t p) [97, 108, 108] = true
  · exact sz_Model_wordHere_92 _ (fun z => absurd y8 (bI0 z)) (fun _ => h1 7 3 (by unfold wds; rw [wIx, if_neg y1, wIx, if_neg y2, wIx, if_neg y3, wIx, if_neg y4, wIx, if_neg y5, wIx, if_neg y6, wIx, if_neg y7, wIx, if_pos y8]; rfl) I8 f8 c8)
  refine sz_Model_wordHere_92 _ (fun _ => ?_) (fun z => absurd (bI_f y8) z)
  refine sp_isWord (w := [100, 97, 121]) hT8 hk (by decide) (by decide) (show (6578553 : Int64) = lN (pack [100, 97, 121]) by decide) c8 (fun I9 f9' c9 => ?_)
  rw [hid] at c9 ⊢
  have f9 : frF [14] I I9 := f8.tr f9'
  have hT9 := tpM_fr f9 (by decide) (by decide) hT
  by_cases y9 : isW B t (sk B t p) [100, 97, 121] = true
  · exact sz_Model_wordHere_107 _ (fun z => absurd y9 (bI0 z)) (fun _ => h1 8 3 (by unfold wds; rw [wIx, if_neg y1, wIx, if_neg y2, wIx, if_neg y3, wIx, if_neg y4, wIx, if_neg y5, wIx, if_neg y6, wIx, if_neg y7, wIx, if_neg y8, wIx, if_pos y9]; rfl) I9 f9 c9)
  exact sz_Model_wordHere_107 _ (fun _ => h0 (by unfold wds; rw [wIx, if_neg y1, wIx, if_neg y2, wIx, if_neg y3, wIx, if_neg y4, wIx, if_neg y5, wIx, if_neg y6, wIx, if_neg y7, wIx, if_neg y8, wIx, if_neg y9, wIx]) I9 f9 c9) (fun z => absurd (bI_f y9) z)
theorem sp_makes {I : am_I} {L : am_L} {p v tx q : Nat} {T : List Nat} (hs : pmR I p v tx T) (hv : v ≤ 60)
    (h1 : mk3 v q = 0 → ∀ I', frV tx I I' → pmR I' p (v + 1) tx T → (∀ k, k ≠ 15 → k ≠ 18 → I' 186 k = I 186 k) → Q (some (.int 1)) I' L (gg Lx ρ))
    (h0 : ¬ mk3 v q = 0 → ∀ I', frV tx I I' → I' 186 15 = nI (mk3 v q) → Q (some (.int 0)) I' L (gg Lx ρ)) : am_run (d + 2) m_Model_makes [.ref 186, .int (nI q)] I L (gg Lx ρ) Q := by
  refine run_in rfl rfl ⟨rfl, rfl⟩ (sy_Model_makes_0 (d := d) _ (fun z => ?_) (fun z => ?_))
  · rw [hs.2.2.2.1] at z ⊢
    have hv2 : v < 60 := by
      have : v ≠ 60 := fun k => z (by rw [k]; rfl)
      omega
    rw [nI_1]
    refine h1 (if_pos hv2) _ (frV.F (F := [18]) (frm.rf.uf (by simp)) (by decide)) ⟨⟨?_, ?_⟩, ?_, hs.2.2.1, am_u_at, ?_, ?_⟩ (fun k z1 z2 => am_u_nk z2)
    · rw [am_u_nk (by decide)]; exact hs.1.1
    · rw [am_u_nk (by decide)]; exact hs.1.2
    · rw [am_u_nk (by decide)]; exact hs.2.1
    · rw [am_u_ne (by decide)]; exact hs.2.2.2.2.1
    · rw [am_u_ne (by decide)]; exact hs.2.2.2.2.2
  · rw [hs.2.2.2.1] at z
    have hv2 : v = 60 := (nI_eq (b := 60) (by omega) (by decide)).mp z
    have e : mk3 v q = 1 + 8 * q + 3 := if_neg (by omega)
    have g := mFail_n (q := q) (w := 3) (by decide) hs.1
    exact h0 (by rw [e]; omega) _ (frV.F g.1 (by decide)) (by rw [e]; exact g.2.2)
theorem sp_value {I : am_I} {L : am_L} {B : Nat → Nat} {t p v tx : Nat} {T : List Nat} (hT : tpM I B t) (hp : p ≤ t) (hs : pmR I p v tx T) (hv : v ≤ 60) (hl : T.length ≤ p)
    (h1 : (valP B t p v).1 = 0 → ∀ I', frV tx I I' → pmR I' (valP B t p v).2.1 (valP B t p v).2.2.1 tx (T ++ [(valP B t p v).2.2.2]) → Q (some (.int 1)) I' L (gg Lx ρ))
    (h0 : ¬ (valP B t p v).1 = 0 → ∀ I', frV tx I I' → I' 186 15 = nI (valP B t p v).1 → Q (some (.int 0)) I' L (gg Lx ρ)) : am_run (d + 4) m_Model_value [.ref 186] I L (gg Lx ρ) Q := by
  have hB := fun i hi => (hT.2.2 i hi).2
  have ht := hT.2.1
  have hk := sk_le (B := B) hp
  have hid := sk_id (B := B) hp ht
  refine run_in rfl rfl ⟨rfl, rfl⟩ (sy_Model_value_0 (d := d + 2) ?_)
  refine sp_see (d := d + 2) hT hp hs.1 (fun I1 f1 c1 => ?_)
  have hT1 := tpM_fr f1 (by decide) (by decide) hT
  have s1 := pmR_F f1 (by decide) c1 hs
  have v1 : frV tx I I1 := frV.F f1 (by decide)
  have hd := mDig_n (p := sk B t p) hT1 (by omega)
  refine sy_Model_value_4 (d := d + 2) _ _ _ (fun z => ?_) (fun z => ?_) (fun z => ?_)
  · rw [c1.1] at z ⊢
    rw [hT1.1] at z
    exact vp_in_nI (by have : sk B t p < t := Decidable.byContradiction fun k => nI_nlt (by omega) (by omega) z
                       omega) (by decide)
  · rw [c1.1] at z ⊢
    have z : ¬ (sk B t p < t ∧ isD B (sk B t p) = true) := fun k => z (hd.mpr k)
    refine sp_wordHere (d := d) hT1 hk.2 c1 (fun i l y I2 f2 c2 => ?_) (fun y I2 f2 c2 => ?_)
    · rw [hid] at y c2
      have a := wIx_p hk.2 wds 0 i l (by decide) y
      obtain ⟨w, w1, w2, w3⟩ := wIx_w wds 0 i l y
      have hlet : ∀ c ∈ w, 97 ≤ c ∧ c ≤ 122 := (by decide : ∀ w ∈ wds, ∀ c ∈ w, 97 ≤ c ∧ c ≤ 122) w w1
      have e : valP B t p v = (mk3 v (sk B t p), sk B t p + l, v + 1, 1 + 16 * i) := by unfold valP; rw [if_neg z, y]
      rw [e] at h1 h0
      have i9 : i < 9 := by have : wds.length = 9 := rfl; omega
      have s2 := pmR_F f2 (by decide) c2 s1
      have v2 : frV tx I I2 := v1.tr (frV.F f2 (by decide))
      refine sy_Model_value_56 (d := d + 2) _ _ _ (fun _ => ?_) (fun k => absurd k (nI_pos (by omega)))
      refine sp_makes (d := d + 1) s2 hv (fun k I3 g3 s3 o3 => ?_) (fun k I3 g3 e3 => ?_)
      · refine sy_Model_value_73 (d := d + 2) _ _ _ (fun _ => ?_) (fun q => absurd q (by decide))
        have v3 := v2.tr g3
        refine sp_mPass (d := d + 1) (v3.T hT) hk.2 hlet w3 s3.1 (fun I4 f4 c4 => ?_)
        have s4 := pmR_F f4 (by decide) c4 s3
        have v4 := v3.tr (frV.F f4 (by decide))
        have hl4 : T.length < 400 := by have := isW_le hk.2 w3; omega
        have o := put_o s4 hl4
        have ex : (1 : Int32) + 16 * nI i = nI (1 + 16 * i) := by rw [show (16 : Int32) * nI i = nI (16 * i) from pk_mul 16 i]; exact nI_add 1 _
        have pw := put_ok s4 hl4 ex
        refine sy_Model_value_82 (d := d + 2) _ _ o.1 o.2 (h1 k _ (v4.tr pw.2) ?_)
        rw [w2]; exact pw.1
      · refine sy_Model_value_73 (d := d + 2) _ _ _ (fun q => absurd rfl q) (fun _ => ?_)
        exact h0 k I3 (v2.tr g3) e3
    · rw [hid] at y c2
      have e : valP B t p v = (1 + 8 * sk B t p, 0, 0, 0) := by unfold valP; rw [if_neg z, y]
      rw [e] at h0
      refine sy_Model_value_56 (d := d + 2) _ _ _ (fun k => absurd (by decide) k) (fun _ => ?_)
      have g := mFail_n (q := sk B t p) (w := 0) (by decide) c2
      exact h0 (by show ¬ 1 + 8 * sk B t p = 0; omega) _ (v1.tr ((frV.F f2 (by decide)).tr (frV.F g.1 (by decide)))) g.2.2
  · rw [c1.1] at z ⊢
    have z := hd.mp z
    have en : nm B t (sk B t p) 0 99999 (-1) = nm B t p 0 99999 (-1) := nm_sk hp ht
    have a := nm_q (lo := 0) (hi := 99999) (un := -1) hB ht hp
    have gt := nm_gt (lo := 0) (hi := 99999) (un := -1) z
    refine sp_numberHere (d := d + 1) hT1 hk.2 c1 (fun y I2 f2 c2 n2 => ?_) (fun y I2 f2 n2 => ?_)
    · rw [en] at y c2 n2
      have e : valP B t p v = (mk3 v (sk B t p), (nm B t p 0 99999 (-1)).2.1, v + 1, 16 * (nm B t p 0 99999 (-1)).2.2) := by unfold valP; rw [if_pos z, y, ff0]
      rw [e] at h1 h0
      have s2 := pmR_F f2 (by decide) c2 s1
      have v2 : frV tx I I2 := v1.tr (frV.F f2 (by decide))
      refine sy_Model_value_28 (d := d + 2) _ _ _ (fun q => absurd q (by decide)) (fun _ => ?_)
      refine sp_makes (d := d + 1) s2 hv (fun k I3 g3 s3 o3 => ?_) (fun k I3 g3 e3 => ?_)
      · have o := put_o s3 (show T.length < 400 by omega)
        have i16 : I3 186 16 = nI (nm B t p 0 99999 (-1)).2.2 := (o3 16 (by decide) (by decide)).trans n2
        have ex : (0 : Int32) + 16 * I3 186 16 = nI (16 * (nm B t p 0 99999 (-1)).2.2) := by
          rw [i16, show (16 : Int32) * nI (nm B t p 0 99999 (-1)).2.2 = nI (16 * (nm B t p 0 99999 (-1)).2.2) from pk_mul 16 _]
          exact (nI_add 0 _).trans (by rw [Nat.zero_add])
        have pw := put_ok s3 (show T.length < 400 by omega) ex
        exact sy_Model_value_36 (d := d + 2) _ _ _ (fun _ => o.1) (fun _ => o.2) (fun _ => h1 k _ ((v2.tr g3).tr pw.2) pw.1) (fun q => absurd q (by decide))
      · exact sy_Model_value_36 (d := d + 2) _ _ _ (fun q => absurd rfl q) (fun q => absurd rfl q) (fun q => absurd rfl q) (fun _ => h0 k I3 (v2.tr g3) e3)
    · rw [en] at y n2
      have e : (valP B t p v).1 = (nm B t p 0 99999 (-1)).1 := by unfold valP; rw [if_pos z]; exact if_neg y
      refine sy_Model_value_28 (d := d + 2) _ _ _ (fun _ => ?_) (fun q => absurd rfl q)
      exact h0 (by rw [e]; exact y) I2 (v1.tr (frV.F f2 (by decide))) (by rw [e]; exact n2)
end RMV
