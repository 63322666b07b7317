/-! ===== the reference's small methods ===== -/
abbrev mPl (I : am_I) (x : Int32) : Prop := ¬ x < 0 ∧ x < I 198 0
abbrev mRd (I : am_I) (x : Int32) : Prop := ¬ x < 0 ∧ x < I 198 1
abbrev mCa (I : am_I) (x : Int32) : Prop := ¬ x < 0 ∧ x < I 198 2
abbrev mLo (I : am_I) (x : Int32) : Prop := ¬ x < 0 ∧ x < I 198 3
abbrev mRu (I : am_I) (x : Int32) : Prop := ¬ x < 0 ∧ x < I 186 2
abbrev mKi (x : Int32) : Prop := ¬ x < 1 ∧ ¬ 7 < x
abbrev mAsk (I : am_I) (k f t : Int32) : Prop := mKi k ∧ mPl I f ∧ mPl I t
abbrev mIn (v a b : Int64) : Prop := ¬ v < a ∧ ¬ b < v
abbrev oR (x w : Int32) : Prop := vp_in ((7 + (5 * x)) + w) 152
abbrev oC (x w : Int32) : Prop := vp_in ((92 + (3 * x)) + w) 152
abbrev oL (x w : Int32) : Prop := vp_in ((104 + (4 * x)) + w) 152
def mR (I : am_I) (x w : Int32) : Int32 := I 198 (Int32.toNatClampNeg ((7 + (5 * x)) + w))
def mC (I : am_I) (x w : Int32) : Int32 := I 198 (Int32.toNatClampNeg ((92 + (3 * x)) + w))
def mL (I : am_I) (x w : Int32) : Int32 := I 198 (Int32.toNatClampNeg ((104 + (4 * x)) + w))
abbrev mEnd (I : am_I) (x : Int32) : Prop := mL I x 1 = mL I x 2
abbrev mWa (I : am_I) (x : Int32) : Prop := ¬ mL I x 1 < 0 ∧ ¬ mEnd I x
abbrev mBeg (I : am_I) (x f : Int32) : Prop := mR I x 0 = f ∨ mR I x 1 = f
def mOth (I : am_I) (x f : Int32) : Int32 := if mR I x 0 = f then mR I x 1 else mR I x 0
abbrev mOf (x k : Int32) : Prop := ((x >>> (k &&& 31)) &&& 1) = 1
abbrev mDig (I : am_I) (k : Int32) : Prop := k < I 186 1 ∧ ¬ I 187 (Int32.toNatClampNeg k) < 48 ∧ ¬ 57 < I 187 (Int32.toNatClampNeg k)
abbrev mLet (I : am_I) (k : Int32) : Prop := k < I 186 1 ∧ ¬ I 187 (Int32.toNatClampNeg k) < 97 ∧ ¬ 122 < I 187 (Int32.toNatClampNeg k)
def mStr (x : Int32) : Int32 := if x = 13 then 1 else if x = 12 then 2 else if x = 11 then 3 else 0
section SMM
variable {d Lx : Nat} {ρ : List (Nat × Nat)} {I : am_I} {L : am_L} {Q : am_Q}
theorem sm_Model_isPlace (x : Int32) (h : Q (some (.int (bI (mPl I x)))) I L (gg Lx ρ)) : am_run (d + 1) m_Model_isPlace [.ref 186, .int x] I L (gg Lx ρ) Q :=
  run_in rfl rfl ⟨rfl, rfl⟩ (sz_Model_isPlace_0 x (fun c => (bI_f (p := mPl I x) fun z => z.1 c) ▸ h) (fun _ c => (bI_f (p := mPl I x) fun z => c z.2) ▸ h) (fun a b => (bI_t (p := mPl I x) ⟨a, b⟩) ▸ h))
theorem sm_Model_isRoad (x : Int32) (h : Q (some (.int (bI (mRd I x)))) I L (gg Lx ρ)) : am_run (d + 1) m_Model_isRoad [.ref 186, .int x] I L (gg Lx ρ) Q :=
  run_in rfl rfl ⟨rfl, rfl⟩ (sz_Model_isRoad_0 x (fun c => (bI_f (p := mRd I x) fun z => z.1 c) ▸ h) (fun _ c => (bI_f (p := mRd I x) fun z => c z.2) ▸ h) (fun a b => (bI_t (p := mRd I x) ⟨a, b⟩) ▸ h))
theorem sm_Model_isCarter (x : Int32) (h : Q (some (.int (bI (mCa I x)))) I L (gg Lx ρ)) : am_run (d + 1) m_Model_isCarter [.ref 186, .int x] I L (gg Lx ρ) Q :=
  run_in rfl rfl ⟨rfl, rfl⟩ (sz_Model_isCarter_0 x (fun c => (bI_f (p := mCa I x) fun z => z.1 c) ▸ h) (fun _ c => (bI_f (p := mCa I x) fun z => c z.2) ▸ h) (fun a b => (bI_t (p := mCa I x) ⟨a, b⟩) ▸ h))
theorem sm_Model_isLoad (x : Int32) (h : Q (some (.int (bI (mLo I x)))) I L (gg Lx ρ)) : am_run (d + 1) m_Model_isLoad [.ref 186, .int x] I L (gg Lx ρ) Q :=
  run_in rfl rfl ⟨rfl, rfl⟩ (sz_Model_isLoad_0 x (fun c => (bI_f (p := mLo I x) fun z => z.1 c) ▸ h) (fun _ c => (bI_f (p := mLo I x) fun z => c z.2) ▸ h) (fun a b => (bI_t (p := mLo I x) ⟨a, b⟩) ▸ h))
theorem sm_Model_isRule (x : Int32) (h : Q (some (.int (bI (mRu I x)))) I L (gg Lx ρ)) : am_run (d + 1) m_Model_isRule [.ref 186, .int x] I L (gg Lx ρ) Q :=
  run_in rfl rfl ⟨rfl, rfl⟩ (sz_Model_isRule_0 x (fun c => (bI_f (p := mRu I x) fun z => z.1 c) ▸ h) (fun _ c => (bI_f (p := mRu I x) fun z => c z.2) ▸ h) (fun a b => (bI_t (p := mRu I x) ⟨a, b⟩) ▸ h))
theorem sm_Model_isKind (x : Int32) (h : Q (some (.int (bI (mKi x)))) I L (gg Lx ρ)) : am_run (d + 1) m_Model_isKind [.int x] I L (gg Lx ρ) Q :=
  run_in rfl rfl ⟨rfl, rfl⟩ (sz_Model_isKind_0 x (fun c => (bI_f (p := mKi x) fun z => z.1 c) ▸ h) (fun _ c => (bI_f (p := mKi x) fun z => z.2 c) ▸ h) (fun a b => (bI_t (p := mKi x) ⟨a, b⟩) ▸ h))
theorem sm_Model_isOf (x k : Int32) (h : Q (some (.int (bI (mOf x k)))) I L (gg Lx ρ)) : am_run (d + 1) m_Model_isOf [.int x, .int k] I L (gg Lx ρ) Q :=
  run_in rfl rfl ⟨rfl, rfl⟩ (sz_Model_isOf_0 x k (fun c => (bI_f (p := mOf x k) c) ▸ h) (fun c => (bI_t (p := mOf x k) c) ▸ h))
theorem sm_Model_in (v a b : Int64) (h : Q (some (.int (bI (mIn v a b)))) I L (gg Lx ρ)) : am_run (d + 1) m_Model_in [.long v, .long a, .long b] I L (gg Lx ρ) Q :=
  run_in rfl rfl ⟨rfl, rfl⟩ (sz_Model_in_0 v a b (fun c => (bI_f (p := mIn v a b) fun z => z.1 ((lgc _ _).1.mp c)) ▸ h) (fun _ c => (bI_f (p := mIn v a b) fun z => z.2 ((lgc _ _).2.2.mp c)) ▸ h) (fun c c2 => (bI_t (p := mIn v a b) ⟨fun z => c ((lgc _ _).1.mpr z), fun z => c2 ((lgc _ _).2.2.mpr z)⟩) ▸ h))
theorem sm_Model_roadOf (x w : Int32) (o : oR x w) (h : Q (some (.int (mR I x w))) I L (gg Lx ρ)) : am_run (d + 1) m_Model_roadOf [.ref 186, .int x, .int w] I L (gg Lx ρ) Q :=
  run_in rfl rfl ⟨rfl, rfl⟩ (sz_Model_roadOf_0 x w o h)
theorem sm_Model_carterOf (x w : Int32) (o : oC x w) (h : Q (some (.int (mC I x w))) I L (gg Lx ρ)) : am_run (d + 1) m_Model_carterOf [.ref 186, .int x, .int w] I L (gg Lx ρ) Q :=
  run_in rfl rfl ⟨rfl, rfl⟩ (sz_Model_carterOf_0 x w o h)
theorem sm_Model_loadOf (x w : Int32) (o : oL x w) (h : Q (some (.int (mL I x w))) I L (gg Lx ρ)) : am_run (d + 1) m_Model_loadOf [.ref 186, .int x, .int w] I L (gg Lx ρ) Q :=
  run_in rfl rfl ⟨rfl, rfl⟩ (sz_Model_loadOf_0 x w o h)
theorem sm_Model_isAtEnd (x : Int32) (o1 : oL x 1) (o2 : oL x 2) (h : Q (some (.int (bI (mEnd I x)))) I L (gg Lx ρ)) : am_run (d + 2) m_Model_isAtEnd [.ref 186, .int x] I L (gg Lx ρ) Q :=
  run_in rfl rfl ⟨rfl, rfl⟩ (sz_Model_isAtEnd_0 x (sm_Model_loadOf x 1 o1 (sz_Model_isAtEnd_6 x _ (sm_Model_loadOf x 2 o2 (sz_Model_isAtEnd_12 x _ _ (fun c => (bI_f (p := mEnd I x) c) ▸ h) (fun c => (bI_t (p := mEnd I x) c) ▸ h))))))
theorem sm_Model_waits (x : Int32) (o1 : oL x 1) (o2 : oL x 2) (h : Q (some (.int (bI (mWa I x)))) I L (gg Lx ρ)) : am_run (d + 3) m_Model_waits [.ref 186, .int x] I L (gg Lx ρ) Q :=
  run_in rfl rfl ⟨rfl, rfl⟩ (sz_Model_waits_0 x (sm_Model_loadOf x 1 o1 (sz_Model_waits_6 x _ (fun c => (bI_f (p := mWa I x) fun z => z.1 c) ▸ h) (fun c => sm_Model_isAtEnd x o1 o2 (sz_Model_waits_14 x _ (fun c2 => (bI_f (p := mWa I x) fun z => z.2 (bI1 c2)) ▸ h) (fun c2 => (bI_t (p := mWa I x) ⟨c, bI0 c2⟩) ▸ h))))))
theorem sm_Model_otherOf (x f : Int32) (o1 : oR x 0) (o2 : oR x 1) (h : Q (some (.int (mOth I x f))) I L (gg Lx ρ)) : am_run (d + 2) m_Model_otherOf [.ref 186, .int x, .int f] I L (gg Lx ρ) Q :=
  run_in rfl rfl ⟨rfl, rfl⟩ (sz_Model_otherOf_0 x f (sm_Model_roadOf x 0 o1 (sz_Model_otherOf_6 x f _ (fun c => sm_Model_roadOf x 0 o1 (sz_Model_otherOf_25 x f _ ((show mOth I x f = mR I x 0 from if_neg c) ▸ h))) (fun c => sm_Model_roadOf x 1 o2 (sz_Model_otherOf_16 x f _ ((show mOth I x f = mR I x 1 from if_pos c) ▸ h))))))
theorem sm_Model_beginsAt (x f : Int32) (o1 : oR x 0) (o2 : oR x 1) (h : Q (some (.int (bI (mBeg I x f)))) I L (gg Lx ρ)) : am_run (d + 2) m_Model_beginsAt [.ref 186, .int x, .int f] I L (gg Lx ρ) Q :=
  run_in rfl rfl ⟨rfl, rfl⟩ (sz_Model_beginsAt_0 x f (sm_Model_roadOf x 0 o1 (sz_Model_beginsAt_6 x f _ (fun c => (bI_t (p := mBeg I x f) (Or.inl c)) ▸ h) (fun c => sm_Model_roadOf x 1 o2 (sz_Model_beginsAt_16 x f _ (fun c2 => (bI_f (p := mBeg I x f) fun z => z.elim c c2) ▸ h) (fun c2 => (bI_t (p := mBeg I x f) (Or.inr c2)) ▸ h))))))
theorem sm_Model_canLook (k f t : Int32) (h : Q (some (.int (bI (mAsk I k f t)))) I L (gg Lx ρ)) : am_run (d + 2) m_Model_canLook [.ref 186, .int k, .int f, .int t] I L (gg Lx ρ) Q :=
  run_in rfl rfl ⟨rfl, rfl⟩ (sz_Model_canLook_0 k f t (sm_Model_isKind k (sz_Model_canLook_4 k f t _ (fun c => (bI_f (p := mAsk I k f t) fun z => bI0 c z.1) ▸ h) (fun c => sm_Model_isPlace f (sz_Model_canLook_12 k f t _ (fun c2 => (bI_f (p := mAsk I k f t) fun z => bI0 c2 z.2.1) ▸ h) (fun c2 => sm_Model_isPlace t (sz_Model_canLook_20 k f t _ (fun c3 => (bI_f (p := mAsk I k f t) fun z => bI0 c3 z.2.2) ▸ h) (fun c3 => (bI_t (p := mAsk I k f t) ⟨bI1 c, bI1 c2, bI1 c3⟩) ▸ h))))))))
theorem sm_Model_isDigit (k : Int32) (o : k < I 186 1 → vp_in k 400) (h : Q (some (.int (bI (mDig I k)))) I L (gg Lx ρ)) : am_run (d + 1) m_Model_isDigit [.ref 186, .int k] I L (gg Lx ρ) Q :=
  run_in rfl rfl ⟨rfl, rfl⟩ (sz_Model_isDigit_0 k (fun c => (bI_f (p := mDig I k) fun z => c z.1) ▸ h) o (fun _ c => (bI_f (p := mDig I k) fun z => z.2.1 c) ▸ h) (fun _ _ c => (bI_f (p := mDig I k) fun z => z.2.2 c) ▸ h) (fun a b c => (bI_t (p := mDig I k) ⟨a, b, c⟩) ▸ h))
theorem sm_Model_isLetter (k : Int32) (o : k < I 186 1 → vp_in k 400) (h : Q (some (.int (bI (mLet I k)))) I L (gg Lx ρ)) : am_run (d + 1) m_Model_isLetter [.ref 186, .int k] I L (gg Lx ρ) Q :=
  run_in rfl rfl ⟨rfl, rfl⟩ (sz_Model_isLetter_0 k (fun c => (bI_f (p := mLet I k) fun z => c z.1) ▸ h) o (fun _ c => (bI_f (p := mLet I k) fun z => z.2.1 c) ▸ h) (fun _ _ c => (bI_f (p := mLet I k) fun z => z.2.2 c) ▸ h) (fun a b c => (bI_t (p := mLet I k) ⟨a, b, c⟩) ▸ h))
theorem sm_Model_strength (x : Int32) (h : Q (some (.int (mStr x))) I L (gg Lx ρ)) : am_run (d + 1) m_Model_strength [.int x] I L (gg Lx ρ) Q := by
  unfold mStr at h
  refine run_in rfl rfl ⟨rfl, rfl⟩ (sz_Model_strength_0 x (fun a b c => ?_) (fun a b c => ?_) (fun a b => ?_) (fun a => ?_))
  · rw [if_neg a, if_neg b, if_neg c] at h; exact h
  · rw [if_neg a, if_neg b, if_pos c] at h; exact h
  · rw [if_neg a, if_pos b] at h; exact h
  · rw [if_pos a] at h; exact h
end SMM
