/-! ===== reading the tape: blanks, words, numbers ===== -/
/-- from p on, as long as it goes on -/
def run1 (G : Nat → Bool) (t : Nat) : Nat → Nat → Nat
  | 0, p => p
  | k + 1, p => if p < t ∧ G p = true then run1 G t k (p + 1) else p
theorem run1_le {G : Nat → Bool} {t : Nat} : ∀ k p, p ≤ t → p ≤ run1 G t k p ∧ run1 G t k p ≤ t
  | 0, p, h => ⟨Nat.le_refl _, h⟩
  | k + 1, p, h => by
    unfold run1
    split
    · next z => obtain ⟨a, b⟩ := run1_le (G := G) (t := t) k (p + 1) z.1; exact ⟨by omega, b⟩
    · exact ⟨Nat.le_refl _, h⟩
theorem run1_st {G : Nat → Bool} {t : Nat} : ∀ k p, p ≤ t → t < p + k → ¬ (run1 G t k p < t ∧ G (run1 G t k p) = true)
  | 0, p, h, h2 => by omega
  | k + 1, p, h, h2 => by
    unfold run1
    split
    · next z => exact run1_st k (p + 1) (by omega) (by omega)
    · next z => exact z
theorem run1_in {G : Nat → Bool} {t : Nat} : ∀ k p i, p ≤ i → i < run1 G t k p → G i = true ∧ i < t
  | 0, p, i, h1, h2 => by
    have : run1 G t 0 p = p := rfl
    omega
  | k + 1, p, i, h1, h2 => by
    unfold run1 at h2
    split at h2
    · next z =>
      by_cases e : i = p
      · subst e; exact ⟨z.2, z.1⟩
      · exact run1_in k (p + 1) i (by omega) h2
    · omega
/-- the end of a run is where it must be -/
theorem run1_eq {G : Nat → Bool} {t p q k : Nat} (h1 : p ≤ q) (hq : q ≤ t) (hk : t < p + k) (h2 : ∀ i, p ≤ i → i < q → G i = true) (h3 : ¬ (q < t ∧ G q = true)) : run1 G t k p = q := by
  have hp : p ≤ t := by omega
  obtain ⟨a, b⟩ := run1_le (G := G) (t := t) k p hp
  have c := run1_st (G := G) k p hp hk
  rcases Nat.lt_trichotomy (run1 G t k p) q with z | z | z
  · exact absurd ⟨by omega, h2 _ a z⟩ c
  · exact z
  · exact absurd ⟨(run1_in k p q h1 z).2, (run1_in k p q h1 z).1⟩ h3
def isB (B : Nat → Nat) : Nat → Bool := fun i => decide (B i = 32)
def isD (B : Nat → Nat) : Nat → Bool := fun i => decide (48 ≤ B i ∧ B i ≤ 57)
def isL (B : Nat → Nat) : Nat → Bool := fun i => decide (97 ≤ B i ∧ B i ≤ 122)
def sk (B : Nat → Nat) (t p : Nat) : Nat := run1 (isB B) t 401 p
theorem sk_le {B : Nat → Nat} {t p : Nat} (h : p ≤ t) : p ≤ sk B t p ∧ sk B t p ≤ t := run1_le 401 p h
theorem sk_st {B : Nat → Nat} {t p : Nat} (h : p ≤ t) (ht : t ≤ 400) : ¬ (sk B t p < t ∧ B (sk B t p) = 32) := fun q => run1_st 401 p h (by omega) ⟨q.1, decide_eq_true q.2⟩
theorem sk_id {B : Nat → Nat} {t p : Nat} (h : p ≤ t) (ht : t ≤ 400) : sk B t (sk B t p) = sk B t p :=
  run1_eq (Nat.le_refl _) (sk_le h).2 (by have := (sk_le (B := B) h).1; omega) (fun i h1 h2 => by omega) (fun q => sk_st h ht ⟨q.1, of_decide_eq_true q.2⟩)
/-- what stands next: a byte, or the end -/
def pk (B : Nat → Nat) (t p : Nat) : Int32 := if sk B t p < t then nI (B (sk B t p)) else -1
/-- a word stands at q, and no more letters -/
def isW (B : Nat → Nat) (t q : Nat) (w : List Nat) : Bool := decide ((∀ i, i < w.length → q + i < t ∧ B (q + i) = w.getD i 0) ∧ ¬ (q + w.length < t ∧ isL B (q + w.length) = true))
def nmL (B : Nat → Nat) (t q : Nat) : Nat → Nat → Nat → Nat × Nat
  | 0, p, v => (p, v)
  | k + 1, p, v => if p < t ∧ isD B p = true then nmL B t q k (p + 1) (if p - q < 5 then v * 10 + (B p - 48) else v) else (p, v)
/-- a number: fault, where one is then, what it is -/
def nm (B : Nat → Nat) (t p : Nat) (lo hi un : Int32) : Nat × Nat × Nat :=
  if sk B t p < t ∧ isD B (sk B t p) = true then (if 5 < (nmL B t (sk B t p) 401 (sk B t p) 0).1 - sk B t p ∨ nI (nmL B t (sk B t p) 401 (sk B t p) 0).2 < lo ∨ hi < nI (nmL B t (sk B t p) 401 (sk B t p) 0).2 ∨ nI (nmL B t (sk B t p) 401 (sk B t p) 0).2 = un then 1 + 8 * sk B t p + 1 else 0, (nmL B t (sk B t p) 401 (sk B t p) 0).1, (nmL B t (sk B t p) 401 (sk B t p) 0).2) else (1 + 8 * sk B t p, sk B t p, 0)
theorem nmL_p {B : Nat → Nat} {t q : Nat} (hB : ∀ i, i < t → B i < 256) : ∀ k p v, q ≤ p → p ≤ t → v < 10 ^ (min (p - q) 5) → p ≤ (nmL B t q k p v).1 ∧ (nmL B t q k p v).1 ≤ t ∧ (nmL B t q k p v).2 < 100000
  | 0, p, v, h1, h2, h3 => ⟨Nat.le_refl _, h2, Nat.lt_of_lt_of_le h3 (Nat.le_trans (Nat.pow_le_pow_right (by decide) (Nat.min_le_right _ _)) (by decide))⟩
  | k + 1, p, v, h1, h2, h3 => by
    unfold nmL
    split
    · next z =>
      have hd := of_decide_eq_true z.2
      have : (if p - q < 5 then v * 10 + (B p - 48) else v) < 10 ^ (min (p + 1 - q) 5) := by
        split
        · next y =>
          rw [Nat.min_eq_left (by omega)] at h3
          rw [Nat.min_eq_left (by omega), show p + 1 - q = (p - q) + 1 by omega, Nat.pow_succ]
          omega
        · next y =>
          rw [Nat.min_eq_right (by omega)] at h3
          rw [Nat.min_eq_right (by omega)]; exact h3
      obtain ⟨a, b, c⟩ := nmL_p hB k (p + 1) _ (by omega) (by omega) this
      exact ⟨by omega, b, c⟩
    · exact ⟨Nat.le_refl _, h2, Nat.lt_of_lt_of_le h3 (Nat.le_trans (Nat.pow_le_pow_right (by decide) (Nat.min_le_right _ _)) (by decide))⟩
theorem nm_p {B : Nat → Nat} {t p : Nat} {lo hi un : Int32} (hB : ∀ i, i < t → B i < 256) (h : p ≤ t) : sk B t p ≤ (nm B t p lo hi un).2.1 ∧ (nm B t p lo hi un).2.1 ≤ t ∧ (nm B t p lo hi un).2.2 < 100000 ∧ (nm B t p lo hi un).1 < 4000 ∨ 400 < t := by
  by_cases ht : 400 < t
  · exact Or.inr ht
  · left
    have hs := sk_le (B := B) h
    unfold nm
    split
    · next z =>
      obtain ⟨a, b, c⟩ := nmL_p (q := sk B t p) hB 401 (sk B t p) 0 (Nat.le_refl _) hs.2 (by rw [Nat.sub_self, Nat.min_eq_left (by omega)]; decide)
      refine ⟨a, b, c, ?_⟩
      have hb : 1 + 8 * sk B t p + 1 < 4000 := by have := hs.2; omega
      show (if _ then 1 + 8 * sk B t p + 1 else 0) < 4000
      split
      · exact hb
      · decide
    · exact ⟨Nat.le_refl _, hs.2, by show 0 < 100000; decide, by show 1 + 8 * sk B t p < 4000; omega⟩
/-- the class's tape; where it stands, and the fault so far -/
def tpC (I : am_I) (B : Nat → Nat) (t : Nat) : Prop := I 13 1 = nI t ∧ t ≤ 400 ∧ ∀ i, i < t → I 14 i = nI (B i) ∧ B i < 256
def cur (I : am_I) (p e : Nat) : Prop := I 13 2 = nI p ∧ I 13 3 = nI e
def fr13 (I I' : am_I) : Prop := (∀ a, a ≠ 13 → I' a = I a) ∧ ∀ k, k ≠ 2 → k ≠ 3 → I' 13 k = I 13 k
theorem fr13.rf {I : am_I} : fr13 I I := ⟨fun _ _ => rfl, fun _ _ _ => rfl⟩
theorem fr13.tr {I I' I2 : am_I} (h : fr13 I I') (g : fr13 I' I2) : fr13 I I2 := ⟨fun a z => (g.1 a z).trans (h.1 a z), fun k z1 z2 => (g.2 k z1 z2).trans (h.2 k z1 z2)⟩
theorem fr13.u2 {I I' : am_I} (h : fr13 I I') {v : Int32} : fr13 I (am_u I' 13 2 v) := ⟨fun a z => by rw [am_u_ne z]; exact h.1 a z, fun k z1 z2 => by rw [am_u_nk z1]; exact h.2 k z1 z2⟩
theorem fr13.u3 {I I' : am_I} (h : fr13 I I') {v : Int32} : fr13 I (am_u I' 13 3 v) := ⟨fun a z => by rw [am_u_ne z]; exact h.1 a z, fun k z1 z2 => by rw [am_u_nk z2]; exact h.2 k z1 z2⟩
theorem tpC_fr {I I' : am_I} {B : Nat → Nat} {t : Nat} (h : fr13 I I') (hT : tpC I B t) : tpC I' B t := ⟨(h.2 1 (by decide) (by decide)).trans hT.1, hT.2.1, by rw [h.1 14 (by decide)]; exact hT.2.2⟩
/-- the first fault stays -/
def ff (e x : Nat) : Nat := if e = 0 then x else e
theorem cFail_n {I : am_I} {p e q w : Nat} (he : e < 2 ^ 31) (hc : cur I p e) : fr13 I (cFail I (nI q) (nI w)) ∧ cur (cFail I (nI q) (nI w)) p (ff e (1 + 8 * q + w)) := by
  unfold cFail ff
  rw [hc.2]
  by_cases z : e = 0
  · subst z
    rw [if_pos (show nI 0 = 0 from rfl), if_pos rfl]
    refine ⟨fr13.rf.u3, by rw [am_u_nk (by decide)]; exact hc.1, ?_⟩
    rw [am_u_at, show (1 : Int32) = nI 1 from rfl, show (8 : Int32) = nI 8 from rfl, pk_mul, nI_add, nI_add]
  · rw [if_neg (nI_ne0 (by omega) he), if_neg z]
    exact ⟨fr13.rf, hc⟩
section TAP
variable {d Lx : Nat} {ρ : List (Nat × Nat)} {Q : am_Q} {Rs : List (List (Nat × List Nat))}
theorem lp_peek {I : am_I} {L : am_L} {K : am_C} {B : Nat → Nat} {t p e : Nat} (hT : tpC I B t)
    (h : ∀ I', fr13 I I' → cur I' (sk B t p) e → Q (some (.int (pk B t p))) I' L (gg Lx ρ)) : ∀ k q I', t < q + k → p ≤ q → q ≤ sk B t p → sk B t p = run1 (isB B) t k q → sk B t p ≤ t → fr13 I I' → cur I' q e → am_W am_all K e_Tape_peek Q 0 [.ref 13] [] I' L (gg Lx ρ) 0 0
  | 0, q, I', hk, _, _, hs, ht, hf, hc => by
    have : sk B t p = q := hs
    omega
  | k + 1, q, I', hk, h1, h2, hs, ht, hf, hc => by
    have hT' := tpC_fr hf hT
    have h400 := hT.2.1
    unfold run1 at hs
    by_cases hq : q < t
    · obtain ⟨b1, b2⟩ := hT'.2.2 q hq
      have eb : I' 14 (I' 13 2).toNatClampNeg = nI (B q) := by rw [hc.1, nI_clamp (by omega)]; exact b1
      have c1 : I' 13 2 < I' 13 1 := by rw [hc.1, hT'.1]; exact nI_lt hq (by omega)
      have c2 : I' 13 2 < 400 := by rw [hc.1]; exact nI_lt (b := 400) (by omega) (by decide)
      refine sz_Tape_peek_0 (fun z => absurd c1 z) (fun _ z => absurd c2 z) (fun _ _ => by rw [hc.1]; exact vp_in_nI (by omega) (by decide)) (fun _ _ z => ?_) (fun _ _ z => ?_)
      · rw [eb] at z
        have hnb : ¬ (q < t ∧ isB B q = true) := fun y => z (by rw [of_decide_eq_true y.2]; rfl)
        rw [if_neg hnb] at hs
        have := h I' hf (by rw [hs]; exact hc)
        unfold pk at this
        rw [hs, if_pos hq] at this
        rw [eb]; exact this
      · rw [eb] at z
        have hb : B q = 32 := (nI_eq (b := 32) (by omega) (by decide)).mp z
        rw [if_pos ⟨hq, decide_eq_true hb⟩] at hs
        have hle := (run1_le (G := isB B) (t := t) k (q + 1) (by omega)).1
        rw [hc.1, nI_1]
        exact lp_peek hT h k (q + 1) _ (by omega) (by omega) (by omega) hs ht hf.u2 ⟨am_u_at, by rw [am_u_nk (by decide)]; exact hc.2⟩
    · rw [if_neg (fun y => hq y.1)] at hs
      have c1 : ¬ I' 13 2 < I' 13 1 := by rw [hc.1, hT'.1]; exact nI_nlt (by omega) (by omega)
      have := h I' hf (by rw [hs]; exact hc)
      unfold pk at this
      rw [hs, if_neg hq] at this
      exact sz_Tape_peek_0 (fun _ => this) (fun z => absurd z c1) (fun z => absurd z c1) (fun z => absurd z c1) (fun z => absurd z c1)
theorem sp_peek {I : am_I} {L : am_L} {B : Nat → Nat} {t p e : Nat} (hT : tpC I B t) (hp : p ≤ t) (hc : cur I p e)
    (h : ∀ I', fr13 I I' → cur I' (sk B t p) e → Q (some (.int (pk B t p))) I' L (gg Lx ρ)) : am_run (d + 1) m_Tape_peek [.ref 13] I L (gg Lx ρ) Q :=
  run_in rfl rfl ⟨rfl, rfl⟩ (lp_peek hT h 401 p I (by have := hT.2.1; omega) (Nat.le_refl _) (sk_le hp).1 rfl (sk_le hp).2 fr13.rf hc)
theorem lp_pw {I : am_I} {L : am_L} {K : am_C} {B : Nat → Nat} {t q e x : Nat} {w : List Nat} (hT : tpC I B t) (hx : 2 ≤ x ∧ x < 12) (hw : am_strs x = w.map nI) (hw2 : ∀ c ∈ w, c < 256) (hq : q + w.length ≤ t) (hc : cur I q e)
    (h : ∀ I', fr13 I I' → cur I' (if isW B t q w = true then q + w.length else q) e → Q (some (.int (bI (isW B t q w = true)))) I' L (gg Lx ρ)) : ∀ k i, i + k = w.length → (∀ j, j < i → B (q + j) = w.getD j 0) → am_W am_all K e_Tape_passWord Q 37 [.ref 13, .ref x, .int (nI (q + w.length)), .int (nI (q + i))] [] I L (gg Lx ρ) 0 0
  | 0, i, e1, hm => by
    have e1 : i = w.length := e1
    subst e1
    have h400 := hT.2.1
    have hno : ¬ nI (q + w.length) < nI (q + w.length) := nI_nlt (Nat.le_refl _) (by omega)
    have hall : ∀ i, i < w.length → q + i < t ∧ B (q + i) = w.getD i 0 := fun i hi => ⟨by omega, hm i hi⟩
    have yes : ¬ (q + w.length < t ∧ isL B (q + w.length) = true) → Q (some (.int 1)) (am_u I 13 2 (nI (q + w.length))) L (gg Lx ρ) := fun z => by
      have ew : isW B t q w = true := decide_eq_true ⟨hall, z⟩
      have := h (am_u I 13 2 (nI (q + w.length))) fr13.rf.u2 (by rw [if_pos ew]; exact ⟨am_u_at, by rw [am_u_nk (by decide)]; exact hc.2⟩)
      rw [bI_t ew] at this; exact this
    by_cases hlt : q + w.length < t
    · obtain ⟨b1, b2⟩ := hT.2.2 _ hlt
      have c1 : nI (q + w.length) < I 13 1 := by rw [hT.1]; exact nI_lt hlt (by omega)
      have c2 : nI (q + w.length) < 400 := nI_lt (b := 400) (by omega) (by decide)
      have eb : I 14 (nI (q + w.length)).toNatClampNeg = nI (B (q + w.length)) := by rw [nI_clamp (by omega)]; exact b1
      refine sz_Tape_passWord_37 x _ _ (fun _ z => absurd c1 z) (fun _ _ z => absurd c2 z) (fun _ _ _ => vp_in_nI (by omega) (by decide)) (fun _ _ _ z => yes ?_) (fun _ _ _ _ z => yes ?_) (fun _ _ _ z z2 => ?_) (fun z => absurd z hno) (fun z => absurd z hno) (fun z => absurd z hno) (fun z => absurd z hno) (fun z => absurd z hno)
      · rw [eb] at z
        exact fun y => by have := of_decide_eq_true y.2; exact absurd z (nI_nlt (b := 97) (by omega) (by omega))
      · rw [eb] at z
        exact fun y => by have := of_decide_eq_true y.2; exact absurd z (nI_nlt (a := 122) (by omega) (by decide))
      · rw [eb] at z z2
        have h1 : 97 ≤ B (q + w.length) := Nat.le_of_not_lt fun y => z (nI_lt (b := 97) y (by decide))
        have h2 : B (q + w.length) ≤ 122 := Nat.le_of_not_lt fun y => z2 (nI_lt (a := 122) y (by omega))
        have ew : ¬ isW B t q w = true := fun y => (of_decide_eq_true y).2 ⟨hlt, decide_eq_true ⟨h1, h2⟩⟩
        have := h I fr13.rf (by rw [if_neg ew]; exact hc)
        rw [bI_f ew] at this; exact this
    · have c1 : ¬ nI (q + w.length) < I 13 1 := by rw [hT.1]; exact nI_nlt (by omega) (by omega)
      exact sz_Tape_passWord_37 x _ _ (fun _ _ => yes (fun y => hlt y.1)) (fun _ z => absurd z c1) (fun _ z => absurd z c1) (fun _ z => absurd z c1) (fun _ z => absurd z c1) (fun _ z => absurd z c1) (fun z => absurd z hno) (fun z => absurd z hno) (fun z => absurd z hno) (fun z => absurd z hno) (fun z => absurd z hno)
  | k + 1, i, e1, hm => by
    have h400 := hT.2.1
    have hi : i < w.length := by omega
    obtain ⟨b1, b2⟩ := hT.2.2 (q + i) (by omega)
    have hyes : nI (q + i) < nI (q + w.length) := nI_lt (by omega) (by omega)
    have eb : I 14 (nI (q + i)).toNatClampNeg = nI (B (q + i)) := by rw [nI_clamp (by omega)]; exact b1
    have es : nI (q + i) - I 13 2 = nI i := by rw [hc.1, pk_sub (by omega), Nat.add_sub_cancel_left]
    have hwi : w[i]? = some w[i] := List.getElem?_eq_getElem hi
    have hwl : w[i] < 256 := hw2 _ (List.getElem_mem hi)
    have egd : w.getD i 0 = w[i] := by rw [List.getD_eq_getElem?_getD, hwi]; rfl
    have ec : (am_strs x).getD (nI (q + i) - I 13 2).toNatClampNeg 0 = nI w[i] := by
      rw [es, nI_clamp (by omega), hw, List.getD_eq_getElem?_getD, List.getElem?_map, hwi]; rfl
    refine sz_Tape_passWord_37 x _ _ (fun z => absurd hyes z) (fun z => absurd hyes z) (fun z => absurd hyes z) (fun z => absurd hyes z) (fun z => absurd hyes z) (fun z => absurd hyes z) (fun _ => vp_in_nI (by omega) (by decide)) (fun _ => hx) (fun _ => by rw [es, hw, List.length_map]; exact vp_in_nI hi (by omega)) (fun _ z => ?_) (fun _ z => ?_)
    · rw [eb, ec] at z
      rw [nI_1]
      refine lp_pw hT hx hw hw2 hq hc h k (i + 1) (by omega) (fun j hj => ?_)
      by_cases y : j = i
      · subst y; rw [egd]; exact (nI_eq (by omega) (by omega)).mp z
      · exact hm j (by omega)
    · rw [eb, ec] at z
      have ew : ¬ isW B t q w = true := fun y => z (by
        have := ((of_decide_eq_true y).1 i hi).2
        rw [this, egd])
      have := h I fr13.rf (by rw [if_neg ew]; exact hc)
      rw [bI_f ew] at this; exact this
theorem sp_passWord {I : am_I} {L : am_L} {B : Nat → Nat} {t p e x : Nat} {w : List Nat} (hT : tpC I B t) (hp : p ≤ t) (hx : 2 ≤ x ∧ x < 12) (hw : am_strs x = w.map nI) (hw2 : ∀ c ∈ w, c < 256) (hwl : w.length < 100) (hc : cur I p e)
    (h : ∀ I', fr13 I I' → cur I' (if isW B t (sk B t p) w = true then sk B t p + w.length else sk B t p) e → Q (some (.int (bI (isW B t (sk B t p) w = true)))) I' L (gg Lx ρ)) : am_run (d + 2) m_Tape_passWord [.ref 13, .ref x] I L (gg Lx ρ) Q := by
  have hs := sk_le (B := B) hp
  have h400 := hT.2.1
  refine run_in rfl rfl ⟨rfl, rfl⟩ (sz_Tape_passWord_0 x ?_)
  refine sp_peek hT hp hc (fun I1 f1 c1 => ?_)
  have hT1 := tpC_fr f1 hT
  have el : I1 13 2 + nI (am_strs x).length = nI (sk B t p + w.length) := by rw [c1.1, hw, List.length_map, nI_add]
  have no : ¬ sk B t p + w.length ≤ t → Q (some (.int 0)) I1 L (gg Lx ρ) := fun z => by
    have ew : ¬ isW B t (sk B t p) w = true := fun y => by
      have hl : 0 < w.length := by omega
      have := ((of_decide_eq_true y).1 (w.length - 1) (by omega)).1
      omega
    have := h I1 f1 (by rw [if_neg ew]; exact c1)
    rw [bI_f ew] at this; exact this
  refine sz_Tape_passWord_4 x _ _ _ hx (fun z => ?_) (fun z z2 => ?_) (fun z z2 => ?_)
  · rw [el, hT1.1] at z
    exact no (fun y => absurd z (nI_nlt (by omega) (by omega)))
  · rw [el, hT1.1] at z
    have hle : sk B t p + w.length ≤ t := Nat.le_of_not_lt fun y => z (nI_lt y (by omega))
    rw [el, c1.1]
    exact lp_pw hT1 hx hw hw2 hle c1 (fun I' f' c' => h I' (f1.tr f') c') w.length 0 (by omega) (fun j hj => absurd hj (Nat.not_lt_zero _))
  · rw [el] at z2
    exact no (fun y => absurd z2 (nI_nlt (a := 400) (by omega) (by decide)))
theorem lp_pn {I : am_I} {L : am_L} {B : Nat → Nat} {t q e : Nat} {lo hi un x4 : Int32} (hT : tpC I B t) (hq : q ≤ t) (he : e < 2 ^ 31) {r : Nat × Nat} (hr : r.1 ≤ t) (hr2 : r.2 < 100000)
    (h : ∀ I', fr13 I I' → cur I' r.1 (ff e (if 5 < r.1 - q ∨ nI r.2 < lo ∨ hi < nI r.2 ∨ nI r.2 = un then 1 + 8 * q + 1 else 0)) → Q (some (.int (nI r.2))) I' L (gg Lx ρ)) : ∀ k p v I', t < p + k → q ≤ p → p ≤ t → nmL B t q k p v = r → fr13 I I' → cur I' p e → am_W am_all (am_run (d + 1)) e_Tape_passNumber Q 38 [.ref 13, .int lo, .int hi, .int un, .int x4, .int (nI q), .int (nI v)] [] I' L (gg Lx ρ) 0 0
  | 0, p, v, I', hk, _, _, _, _, _ => by omega
  | k + 1, p, v, I', hk, h1, h2, hn, hf, hc => by
    have hT' := tpC_fr hf hT
    have h400 := hT.2.1
    have es : I' 13 2 - nI q = nI (p - q) := by rw [hc.1, pk_sub h1]
    have c5 : 5 < I' 13 2 - nI q ↔ 5 < p - q := by
      rw [es]; exact ⟨fun z => Classical.byContradiction fun y => absurd z (nI_nlt (a := 5) (by omega) (by decide)), fun z => nI_lt (a := 5) z (by omega)⟩
    have fin : r = (p, v) → (5 < I' 13 2 - nI q ∨ nI v < lo ∨ hi < nI v ∨ nI v = un → Q (some (.int (nI v))) (cFail I' (nI q) 1) L (gg Lx ρ)) ∧ (¬ (5 < I' 13 2 - nI q ∨ nI v < lo ∨ hi < nI v ∨ nI v = un) → Q (some (.int (nI v))) I' L (gg Lx ρ)) := by
      intro er
      subst er
      rw [c5]
      constructor
      · intro z
        rw [if_pos z] at h
        obtain ⟨f2, c2⟩ := cFail_n (q := q) (w := 1) he hc
        exact h _ (hf.tr f2) c2
      · intro z
        rw [if_neg z] at h
        refine h I' hf ?_
        unfold ff
        by_cases y : e = 0
        · rw [if_pos y]; rw [y] at hc; exact hc
        · rw [if_neg y]; exact hc
    unfold nmL at hn
    by_cases hd : p < t ∧ isD B p = true
    · rw [if_pos hd] at hn
      have hdd := of_decide_eq_true hd.2
      obtain ⟨b1, b2⟩ := hT'.2.2 p hd.1
      have eb : I' 14 (I' 13 2).toNatClampNeg = nI (B p) := by rw [hc.1, nI_clamp (by omega)]; exact b1
      have c1 : I' 13 2 < I' 13 1 := by rw [hc.1, hT'.1]; exact nI_lt hd.1 (by omega)
      have c2 : I' 13 2 < 400 := by rw [hc.1]; exact nI_lt (b := 400) (by omega) (by decide)
      have d1 : ¬ I' 14 (I' 13 2).toNatClampNeg < 48 := by rw [eb]; exact nI_nlt (b := 48) (by omega) (by omega)
      have d2 : ¬ 57 < I' 14 (I' 13 2).toNatClampNeg := by rw [eb]; exact nI_nlt (a := 57) (by omega) (by decide)
      refine sy_Tape_passNumber_38 _ _ _ _ _ _ (fun z => absurd c1 z) (fun z => absurd c1 z) (fun z => absurd c1 z) (fun z => absurd c1 z) (fun z => absurd c1 z) (fun _ z => absurd c2 z) (fun _ z => absurd c2 z) (fun _ z => absurd c2 z) (fun _ z => absurd c2 z) (fun _ z => absurd c2 z) (fun _ _ => by rw [hc.1]; exact vp_in_nI (by omega) (by decide)) (fun _ _ z => absurd z d1) (fun _ _ z => absurd z d1) (fun _ _ z => absurd z d1) (fun _ _ z => absurd z d1) (fun _ _ z => absurd z d1) (fun _ _ _ z => absurd z d2) (fun _ _ _ z => absurd z d2) (fun _ _ _ z => absurd z d2) (fun _ _ _ z => absurd z d2) (fun _ _ _ z => absurd z d2) (fun _ _ _ _ z => ?_) (fun _ _ _ _ z => ?_)
      · rw [es] at z
        rw [if_neg (fun y => z (nI_lt (b := 5) y (by decide)))] at hn
        rw [hc.1, nI_1]
        exact lp_pn hT hq he hr hr2 h k (p + 1) v _ (by omega) (by omega) (by omega) hn hf.u2 ⟨am_u_at, by rw [am_u_nk (by decide)]; exact hc.2⟩
      · rw [es] at z
        have hlt : p - q < 5 := Classical.byContradiction fun y => absurd z (nI_nlt (b := 5) (by omega) (by omega))
        rw [if_pos hlt] at hn
        have ev : ((nI v * 10) + I' 14 (I' 13 2).toNatClampNeg) - 48 = nI (v * 10 + (B p - 48)) := by
          rw [eb, show (10 : Int32) = nI 10 from rfl, show (48 : Int32) = nI 48 from rfl, pk_mul, nI_add, pk_sub (by omega)]
          congr 1; omega
        rw [ev, hc.1, nI_1]
        exact lp_pn hT hq he hr hr2 h k (p + 1) _ _ (by omega) (by omega) (by omega) hn hf.u2 ⟨am_u_at, by rw [am_u_nk (by decide)]; exact hc.2⟩
    · rw [if_neg hd] at hn
      obtain ⟨y1, y0⟩ := fin hn.symm
      by_cases hlt : p < t
      · obtain ⟨b1, b2⟩ := hT'.2.2 p hlt
        have eb : I' 14 (I' 13 2).toNatClampNeg = nI (B p) := by rw [hc.1, nI_clamp (by omega)]; exact b1
        have c1 : I' 13 2 < I' 13 1 := by rw [hc.1, hT'.1]; exact nI_lt hlt (by omega)
        have c2 : I' 13 2 < 400 := by rw [hc.1]; exact nI_lt (b := 400) (by omega) (by decide)
        have nd : ¬ I' 14 (I' 13 2).toNatClampNeg < 48 → ¬ 57 < I' 14 (I' 13 2).toNatClampNeg → False := fun z z2 => by
          rw [eb] at z z2
          exact hd ⟨hlt, decide_eq_true ⟨Nat.le_of_not_lt fun y => z (nI_lt (b := 48) y (by decide)), Nat.le_of_not_lt fun y => z2 (nI_lt (a := 57) y (by omega))⟩⟩
        exact sy_Tape_passNumber_38 _ _ _ _ _ _ (fun z => absurd c1 z) (fun z => absurd c1 z) (fun z => absurd c1 z) (fun z => absurd c1 z) (fun z => absurd c1 z) (fun _ z => absurd c2 z) (fun _ z => absurd c2 z) (fun _ z => absurd c2 z) (fun _ z => absurd c2 z) (fun _ z => absurd c2 z) (fun _ _ => by rw [hc.1]; exact vp_in_nI (by omega) (by decide)) (fun _ _ _ z => y1 (Or.inl z)) (fun _ _ _ _ z => y1 (Or.inr (Or.inl z))) (fun _ _ _ _ _ z => y1 (Or.inr (Or.inr (Or.inl z)))) (fun _ _ _ z1 z2 z3 z4 => y0 (fun q => q.elim z1 (fun q => q.elim z2 (fun q => q.elim z3 z4)))) (fun _ _ _ _ _ _ z => y1 (Or.inr (Or.inr (Or.inr z)))) (fun _ _ _ _ z => y1 (Or.inl z)) (fun _ _ _ _ _ z => y1 (Or.inr (Or.inl z))) (fun _ _ _ _ _ _ z => y1 (Or.inr (Or.inr (Or.inl z)))) (fun _ _ _ _ z1 z2 z3 z4 => y0 (fun q => q.elim z1 (fun q => q.elim z2 (fun q => q.elim z3 z4)))) (fun _ _ _ _ _ _ _ z => y1 (Or.inr (Or.inr (Or.inr z)))) (fun _ _ z z2 _ => (nd z z2).elim) (fun _ _ z z2 _ => (nd z z2).elim)
      · have c1 : ¬ I' 13 2 < I' 13 1 := by rw [hc.1, hT'.1]; exact nI_nlt (by omega) (by omega)
        exact sy_Tape_passNumber_38 _ _ _ _ _ _ (fun _ z => y1 (Or.inl z)) (fun _ _ z => y1 (Or.inr (Or.inl z))) (fun _ _ _ z => y1 (Or.inr (Or.inr (Or.inl z)))) (fun _ z1 z2 z3 z4 => y0 (fun q => q.elim z1 (fun q => q.elim z2 (fun q => q.elim z3 z4)))) (fun _ _ _ _ z => y1 (Or.inr (Or.inr (Or.inr z)))) (fun z => absurd z c1) (fun z => absurd z c1) (fun z => absurd z c1) (fun z => absurd z c1) (fun z => absurd z c1) (fun z => absurd z c1) (fun z => absurd z c1) (fun z => absurd z c1) (fun z => absurd z c1) (fun z => absurd z c1) (fun z => absurd z c1) (fun z => absurd z c1) (fun z => absurd z c1) (fun z => absurd z c1) (fun z => absurd z c1) (fun z => absurd z c1) (fun z => absurd z c1) (fun z => absurd z c1)
theorem sp_passNumber {I : am_I} {L : am_L} {B : Nat → Nat} {t p e : Nat} {lo hi un : Int32} (hT : tpC I B t) (hp : p ≤ t) (he : e < 2 ^ 31) (hc : cur I p e)
    (h : ∀ I', fr13 I I' → cur I' (nm B t p lo hi un).2.1 (ff e (nm B t p lo hi un).1) → Q (some (.int (nI (nm B t p lo hi un).2.2))) I' L (gg Lx ρ)) : am_run (d + 2) m_Tape_passNumber [.ref 13, .int lo, .int hi, .int un] I L (gg Lx ρ) Q := by
  have hs := sk_le (B := B) hp
  have h400 := hT.2.1
  refine run_in rfl rfl ⟨rfl, rfl⟩ (sy_Tape_passNumber_0 _ _ _ ?_)
  refine sp_peek hT hp hc (fun I1 f1 c1 => ?_)
  have hT1 := tpC_fr f1 hT
  unfold nm at h
  by_cases hd : sk B t p < t ∧ isD B (sk B t p) = true
  · rw [if_pos hd] at h
    have hdd := of_decide_eq_true hd.2
    obtain ⟨b1, b2⟩ := hT1.2.2 _ hd.1
    have epk : pk B t p = nI (B (sk B t p)) := if_pos hd.1
    rw [epk]
    obtain ⟨a, b, c⟩ := nmL_p (q := sk B t p) (fun i hi => (hT.2.2 i hi).2) 401 (sk B t p) 0 (Nat.le_refl _) hs.2 (by rw [Nat.sub_self, Nat.min_eq_left (by omega)]; decide)
    refine sy_Tape_passNumber_4 _ _ _ _ _ _ _ (fun z => absurd z (nI_nlt (b := 48) (by omega) (by omega))) (fun _ _ => ?_) (fun _ z => absurd z (nI_nlt (a := 57) (by omega) (by decide)))
    rw [c1.1]
    exact lp_pn hT1 hs.2 he b c (fun I' f' c' => h I' (f1.tr f') c') 401 (sk B t p) 0 I1 (by omega) (Nat.le_refl _) hs.2 rfl fr13.rf c1
  · rw [if_neg hd] at h
    have bad : Q (some (.int 0)) (cFail I1 (I1 13 2) 0) L (gg Lx ρ) := by
      rw [c1.1]
      obtain ⟨f2, c2⟩ := cFail_n (q := sk B t p) (w := 0) he c1
      exact h _ (f1.tr f2) c2
    refine sy_Tape_passNumber_4 _ _ _ _ _ _ _ (fun _ => bad) (fun z z2 => ?_) (fun _ _ => bad)
    unfold pk at z z2
    by_cases hlt : sk B t p < t
    · rw [if_pos hlt] at z z2
      have := (hT1.2.2 _ hlt).2
      exact absurd ⟨hlt, decide_eq_true ⟨Nat.le_of_not_lt fun y => z (nI_lt (b := 48) y (by decide)), Nat.le_of_not_lt fun y => z2 (nI_lt (a := 57) y (by omega))⟩⟩ hd
    · rw [if_neg hlt] at z
      exact absurd (by decide) z
end TAP
