/-! ===== the law's loop (by wip/gen/mklaw.py) ===== -/
theorem lw_end {Lx i : Nat} (h : Lx ≤ 3072) (hi : i ≤ 4000) : Int32.ofNat Lx - 6 < nI i ↔ Lx < i + 6 := by
  by_cases z : 6 ≤ Lx
  · obtain ⟨q, e⟩ : ∃ q, Lx = q + 6 := ⟨Lx - 6, by omega⟩
    subst e
    have e1 : Int32.ofNat (q + 6) - 6 = nI q := by
      have e2 : Int32.ofNat (q + 6) = nI q + 6 := (nI_add q 6).symm
      rw [e2]; exact Int32.add_sub_cancel _ _
    rw [e1, nI_ltI (by omega) (by omega)]
    omega
  · have h6 : ∀ l, l < 6 → (Int32.ofNat l - 6).toInt < 0 := by decide
    have := h6 Lx (by omega)
    rw [Int32.lt_iff_toInt_lt, nI_toInt (by omega)]
    omega
theorem PR.go {Lx mc mm : Nat} {as : List Value} {I : am_I} {L : am_L} {ρ : List (Nat × Nat)} {K1 : am_Q} (hP : PR Lx mc mm as I L ρ) (h : ∀ v I1 L1 ρ1, I1 1 = I 1 → (∀ K2 : am_Q, (∀ I2 L2 ρ2, KK (I 1) ρ2 I2 → K2 (some (.int v)) I2 L2 (gg Lx ρ2)) → am_run 40 mm (.ref 186 :: as) I1 L1 (gg Lx ρ1) K2) → K1 (some (.int v)) I1 L1 (gg Lx ρ1)) : am_run 40 mc (.ref 12 :: as) I L (gg Lx ρ) K1 := hP K1 h
abbrev lwQ : am_Q := fun r _ _ _ => r = some (.int 1)
set_option maxHeartbeats 4000000 in
theorem lw_step {Lx i k n : Nat} {xs : Nat → Int32} {I : am_I} {L : am_L} {ρ : List (Nat × Nat)} (hL : Lx ≤ 3072) (hi : i ≤ 3078) (hK : KK xs ρ I) (hk : k + 3 ≤ 600000) (hn : n + 802 ≤ 7302250)
    (hnext : i + 6 ≤ Lx → ∀ I' L' ρ' k' n', KK xs ρ' I' → k' ≤ k + 3 → n' ≤ n + 802 → am_W am_all (am_run 40) e_Law_law lwQ 18 [.ref 1, .ref 12, .ref 186, .int (nI i + 6)] [] I' L' (gg Lx ρ') k' n') : am_W am_all (am_run 40) e_Law_law lwQ 18 [.ref 1, .ref 12, .ref 186, .int (nI i)] [] I L (gg Lx ρ) k n := by
  have hK0 := hK
  obtain ⟨hx1, Rs, B, t, P, nn, C, m, hJ⟩ := hK0
  subst hx1
  have le : ¬ (Int32.ofNat Lx - 6) < nI i → i + 6 ≤ Lx := fun z => by
    have := mt (lw_end hL (by omega)).mpr z
    omega
  have hv : ∀ c, c < 6 → i + 6 ≤ Lx → vp_in (nI i + nI c) Lx := fun c hc h => by rw [nI_add]; exact vp_in_nI (by omega) (by omega)
  refine sg_Law_law_18 k n 1 12 186 (nI i) Lx rfl (fun z => rfl) (fun z => by omega) (fun z => by omega) (fun z => vp_in_nI (by have := le z; omega) (by omega)) (fun z _ => hv 1 (by decide) (le z)) (fun z _ => hv 2 (by decide) (le z)) (fun z _ => hv 3 (by decide) (le z)) (fun z _ => hv 4 (by decide) (le z)) (fun z _ => hv 5 (by decide) (le z)) (fun z _ => by omega) (fun z _ => by omega) (fun z _ => ?_) (fun z _ => rfl) (fun z _ => hv 1 (by decide) (le z)) (fun z _ => by omega) (fun z _ => by omega) (fun z _ => ?_) (fun z _ => rfl) (fun z _ => by omega) (fun z _ => by omega) (fun z _ => ?_) (fun z _ => rfl) (fun z _ => by omega) (fun z _ => by omega) (fun z _ => ?_) (fun z _ => rfl) (fun z _ => hv 1 (by decide) (le z)) (fun z _ => by omega) (fun z _ => by omega) (fun z _ => ?_) (fun z _ => rfl) (fun z _ => hv 1 (by decide) (le z)) (fun z _ => hv 2 (by decide) (le z)) (fun z _ => by omega) (fun z _ => by omega) (fun z _ => ?_) (fun z _ => rfl) (fun z _ => hv 1 (by decide) (le z)) (fun z _ => hv 2 (by decide) (le z)) (fun z _ => by omega) (fun z _ => by omega) (fun z _ => ?_) (fun z _ => rfl) (fun z _ => hv 1 (by decide) (le z)) (fun z _ => hv 2 (by decide) (le z)) (fun z _ => by omega) (fun z _ => by omega) (fun z _ => ?_) (fun z _ => rfl) (fun z _ => hv 1 (by decide) (le z)) (fun z _ => hv 2 (by decide) (le z)) (fun z _ => by omega) (fun z _ => by omega) (fun z _ => ?_) (fun z _ => rfl) (fun z _ => hv 1 (by decide) (le z)) (fun z _ => hv 2 (by decide) (le z)) (fun z _ => by omega) (fun z _ => by omega) (fun z _ => ?_) (fun z _ => rfl) (fun z _ => hv 1 (by decide) (le z)) (fun z _ => by omega) (fun z _ => by omega) (fun z _ => ?_) (fun z _ => rfl) (fun z _ => hv 1 (by decide) (le z)) (fun z _ => hv 2 (by decide) (le z)) (fun z _ => hv 3 (by decide) (le z)) (fun z _ => by omega) (fun z _ => by omega) (fun z _ => ?_) (fun z _ => rfl) (fun z _ => hv 1 (by decide) (le z)) (fun z _ => hv 2 (by decide) (le z)) (fun z _ => hv 3 (by decide) (le z)) (fun z _ => hv 4 (by decide) (le z)) (fun z _ => by omega) (fun z _ => by omega) (fun z _ => ?_) (fun z _ => rfl) (fun z _ => hv 1 (by decide) (le z)) (fun z _ => hv 2 (by decide) (le z)) (fun z _ => by omega) (fun z _ => by omega) (fun z _ => ?_) (fun z _ => rfl) (fun z _ => hv 1 (by decide) (le z)) (fun z _ => hv 2 (by decide) (le z)) (fun z _ => hv 3 (by decide) (le z)) (fun z _ => hv 4 (by decide) (le z)) (fun z _ => by omega) (fun z _ => by omega) (fun z _ => ?_) (fun z _ => rfl) (fun z _ => hv 1 (by decide) (le z)) (fun z _ => hv 2 (by decide) (le z)) (fun z _ => by omega) (fun z _ => by omega) (fun z _ => ?_) (fun z _ => rfl) (fun z _ => by omega) (fun z _ => by omega) (fun z _ => ?_) (fun z _ => rfl) (fun z _ => hv 1 (by decide) (le z)) (fun z _ => by omega) (fun z _ => by omega) (fun z _ => ?_) (fun z _ => rfl) (fun z _ => hv 1 (by decide) (le z)) (fun z _ => by omega) (fun z _ => by omega) (fun z _ => ?_) (fun z _ => rfl) (fun z _ => hv 1 (by decide) (le z)) (fun z _ => hv 2 (by decide) (le z)) (fun z _ => by omega) (fun z _ => by omega) (fun z _ => ?_) (fun z _ => rfl) (fun z _ => hv 1 (by decide) (le z)) (fun z _ => hv 2 (by decide) (le z)) (fun z _ => by omega) (fun z _ => by omega) (fun z _ => ?_) (fun z _ => rfl) (fun z _ => hv 1 (by decide) (le z)) (fun z _ => hv 2 (by decide) (le z)) (fun z _ => by omega) (fun z _ => by omega) (fun z _ => ?_) (fun z _ => rfl) (fun z _ => hv 1 (by decide) (le z)) (fun z _ => by omega) (fun z _ => by omega) (fun z _ => ?_) (fun z _ => rfl) (fun z _ => hv 1 (by decide) (le z)) (fun z _ => hv 2 (by decide) (le z)) (fun z _ => hv 3 (by decide) (le z)) (fun z _ => by omega) (fun z _ => by omega) (fun z _ => ?_) (fun z _ => rfl) (fun z _ => hv 1 (by decide) (le z)) (fun z _ => by omega) (fun z _ => by omega) (fun z _ => ?_) (fun z _ => rfl) (fun z _ => hv 1 (by decide) (le z)) (fun z _ => by omega) (fun z _ => by omega) (fun z _ => ?_) (fun z _ => rfl) (fun z _ => hv 1 (by decide) (le z)) (fun z _ => by omega) (fun z _ => by omega) (fun z _ => ?_) (fun z _ => rfl) (fun z _ => hnext (le z) I L ρ k n hK (by omega) (by omega))
  · refine PR.go (pr_feed hJ) (fun v I1 L1 ρ1 e1 hm => ?_)
    refine sg_Law_law_185 k n 1 12 186 (nI i) v Lx rfl (hv 1 (by decide) (le z)) (hv 2 (by decide) (le z)) (hv 3 (by decide) (le z)) (hv 4 (by decide) (le z)) (hv 5 (by decide) (le z)) (by omega) (by omega) ?_ rfl
    rw [e1]
    refine hm _ (fun I2 L2 ρ2 hK2 => ?_)
    exact sg_Law_law_214 k n 1 12 186 (nI i) v v (fun _ => hnext (le z) I2 L2 ρ2 k n hK2 (by omega) (by omega)) (fun q => absurd rfl q) (fun q => absurd rfl q) (fun q => absurd rfl q)
  · refine PR.go (pr_end hJ) (fun v I1 L1 ρ1 e1 hm => ?_)
    refine sg_Law_law_228 k n 1 12 186 (nI i) v Lx rfl (hv 1 (by decide) (le z)) (by omega) (by omega) ?_ rfl
    rw [e1]
    refine hm _ (fun I2 L2 ρ2 hK2 => ?_)
    exact sg_Law_law_237 k n 1 12 186 (nI i) v v (fun _ => hnext (le z) I2 L2 ρ2 k n hK2 (by omega) (by omega)) (fun q => absurd rfl q) (fun q => absurd rfl q) (fun q => absurd rfl q)
  · refine PR.go (pr_net hJ) (fun v I1 L1 ρ1 e1 hm => ?_)
    refine sg_Law_law_246 k n 1 12 186 (nI i) v (by omega) (by omega) ?_ rfl
    refine hm _ (fun I2 L2 ρ2 hK2 => ?_)
    exact sg_Law_law_250 k n 1 12 186 (nI i) v v (fun _ => hnext (le z) I2 L2 ρ2 k n hK2 (by omega) (by omega)) (fun q => absurd rfl q) (fun q => absurd rfl q) (fun q => absurd rfl q)
  · refine PR.go (pr_rule hJ) (fun v I1 L1 ρ1 e1 hm => ?_)
    refine sg_Law_law_259 (k + 3) (n + 802) 1 12 186 (nI i) v (by omega) (by omega) ?_ rfl
    refine hm _ (fun I2 L2 ρ2 hK2 => ?_)
    exact sg_Law_law_263 (k + 3) (n + 802) 1 12 186 (nI i) v v (fun _ => hnext (le z) I2 L2 ρ2 (k + 3) (n + 802) hK2 (by omega) (by omega)) (fun q => absurd rfl q) (fun q => absurd rfl q) (fun q => absurd rfl q)
  · refine PR.go (pr_force hJ) (fun v I1 L1 ρ1 e1 hm => ?_)
    refine sg_Law_law_277 k n 1 12 186 (nI i) v Lx rfl (hv 1 (by decide) (le z)) (by omega) (by omega) ?_ rfl
    rw [e1]
    refine hm _ (fun I2 L2 ρ2 hK2 => ?_)
    exact sg_Law_law_286 k n 1 12 186 (nI i) v v (fun _ => hnext (le z) I2 L2 ρ2 k n hK2 (by omega) (by omega)) (fun q => absurd rfl q) (fun q => absurd rfl q) (fun q => absurd rfl q)
  · refine PR.go (pr_road hJ) (fun v I1 L1 ρ1 e1 hm => ?_)
    refine sg_Law_law_305 k n 1 12 186 (nI i) v Lx rfl (hv 1 (by decide) (le z)) (hv 2 (by decide) (le z)) (by omega) (by omega) ?_ rfl
    rw [e1]
    refine hm _ (fun I2 L2 ρ2 hK2 => ?_)
    exact sg_Law_law_319 k n 1 12 186 (nI i) v v (fun _ => hnext (le z) I2 L2 ρ2 k n hK2 (by omega) (by omega)) (fun q => absurd rfl q) (fun q => absurd rfl q) (fun q => absurd rfl q)
  · refine PR.go (pr_carter hJ) (fun v I1 L1 ρ1 e1 hm => ?_)
    refine sg_Law_law_338 k n 1 12 186 (nI i) v Lx rfl (hv 1 (by decide) (le z)) (hv 2 (by decide) (le z)) (by omega) (by omega) ?_ rfl
    rw [e1]
    refine hm _ (fun I2 L2 ρ2 hK2 => ?_)
    exact sg_Law_law_352 k n 1 12 186 (nI i) v v (fun _ => hnext (le z) I2 L2 ρ2 k n hK2 (by omega) (by omega)) (fun q => absurd rfl q) (fun q => absurd rfl q) (fun q => absurd rfl q)
  · refine PR.go (pr_load hJ) (fun v I1 L1 ρ1 e1 hm => ?_)
    refine sg_Law_law_371 k n 1 12 186 (nI i) v Lx rfl (hv 1 (by decide) (le z)) (hv 2 (by decide) (le z)) (by omega) (by omega) ?_ rfl
    rw [e1]
    refine hm _ (fun I2 L2 ρ2 hK2 => ?_)
    exact sg_Law_law_385 k n 1 12 186 (nI i) v v (fun _ => hnext (le z) I2 L2 ρ2 k n hK2 (by omega) (by omega)) (fun q => absurd rfl q) (fun q => absurd rfl q) (fun q => absurd rfl q)
  · refine PR.go (pr_drive hJ) (fun v I1 L1 ρ1 e1 hm => ?_)
    refine sg_Law_law_404 k n 1 12 186 (nI i) v Lx rfl (hv 1 (by decide) (le z)) (hv 2 (by decide) (le z)) (by omega) (by omega) ?_ rfl
    rw [e1]
    refine hm _ (fun I2 L2 ρ2 hK2 => ?_)
    exact sg_Law_law_418 k n 1 12 186 (nI i) v v (fun _ => hnext (le z) I2 L2 ρ2 k n hK2 (by omega) (by omega)) (fun q => absurd rfl q) (fun q => absurd rfl q) (fun q => absurd rfl q)
  · refine PR.go (pr_take hJ) (fun v I1 L1 ρ1 e1 hm => ?_)
    refine sg_Law_law_437 k n 1 12 186 (nI i) v Lx rfl (hv 1 (by decide) (le z)) (hv 2 (by decide) (le z)) (by omega) (by omega) ?_ rfl
    rw [e1]
    refine hm _ (fun I2 L2 ρ2 hK2 => ?_)
    exact sg_Law_law_451 k n 1 12 186 (nI i) v v (fun _ => hnext (le z) I2 L2 ρ2 k n hK2 (by omega) (by omega)) (fun q => absurd rfl q) (fun q => absurd rfl q) (fun q => absurd rfl q)
  · refine PR.go (pr_lay hJ) (fun v I1 L1 ρ1 e1 hm => ?_)
    refine sg_Law_law_465 k n 1 12 186 (nI i) v Lx rfl (hv 1 (by decide) (le z)) (by omega) (by omega) ?_ rfl
    rw [e1]
    refine hm _ (fun I2 L2 ρ2 hK2 => ?_)
    exact sg_Law_law_474 k n 1 12 186 (nI i) v v (fun _ => hnext (le z) I2 L2 ρ2 k n hK2 (by omega) (by omega)) (fun q => absurd rfl q) (fun q => absurd rfl q) (fun q => absurd rfl q)
  · refine PR.go (pr_soonest hJ) (fun v I1 L1 ρ1 e1 hm => ?_)
    refine sg_Law_law_498 k n 1 12 186 (nI i) v Lx rfl (hv 1 (by decide) (le z)) (hv 2 (by decide) (le z)) (hv 3 (by decide) (le z)) (by omega) (by omega) ?_ rfl
    rw [e1]
    refine hm _ (fun I2 L2 ρ2 hK2 => ?_)
    exact sg_Law_law_517 k n 1 12 186 (nI i) v v (fun _ => hnext (le z) I2 L2 ρ2 k n hK2 (by omega) (by omega)) (fun q => absurd rfl q) (fun q => absurd rfl q) (fun q => absurd rfl q)
  · refine PR.go (pr_way hJ) (fun v I1 L1 ρ1 e1 hm => ?_)
    refine sg_Law_law_546 k n 1 12 186 (nI i) v Lx rfl (hv 1 (by decide) (le z)) (hv 2 (by decide) (le z)) (hv 3 (by decide) (le z)) (hv 4 (by decide) (le z)) (by omega) (by omega) ?_ rfl
    rw [e1]
    refine hm _ (fun I2 L2 ρ2 hK2 => ?_)
    exact sg_Law_law_570 k n 1 12 186 (nI i) v v (fun _ => hnext (le z) I2 L2 ρ2 k n hK2 (by omega) (by omega)) (fun q => absurd rfl q) (fun q => absurd rfl q) (fun q => absurd rfl q)
  · refine PR.go (pr_reached hJ) (fun v I1 L1 ρ1 e1 hm => ?_)
    refine sg_Law_law_589 k n 1 12 186 (nI i) v Lx rfl (hv 1 (by decide) (le z)) (hv 2 (by decide) (le z)) (by omega) (by omega) ?_ rfl
    rw [e1]
    refine hm _ (fun I2 L2 ρ2 hK2 => ?_)
    exact sg_Law_law_603 k n 1 12 186 (nI i) v v (fun _ => hnext (le z) I2 L2 ρ2 k n hK2 (by omega) (by omega)) (fun q => absurd rfl q) (fun q => absurd rfl q) (fun q => absurd rfl q)
  · refine PR.go (pr_wiped hJ) (fun v I1 L1 ρ1 e1 hm => ?_)
    refine sg_Law_law_632 k n 1 12 186 (nI i) v Lx rfl (hv 1 (by decide) (le z)) (hv 2 (by decide) (le z)) (hv 3 (by decide) (le z)) (hv 4 (by decide) (le z)) (by omega) (by omega) ?_ rfl
    rw [e1]
    refine hm _ (fun I2 L2 ρ2 hK2 => ?_)
    exact sg_Law_law_656 k n 1 12 186 (nI i) v v (fun _ => hnext (le z) I2 L2 ρ2 k n hK2 (by omega) (by omega)) (fun q => absurd rfl q) (fun q => absurd rfl q) (fun q => absurd rfl q)
  · refine PR.go (pr_plan hJ) (fun v I1 L1 ρ1 e1 hm => ?_)
    refine sg_Law_law_675 k n 1 12 186 (nI i) v Lx rfl (hv 1 (by decide) (le z)) (hv 2 (by decide) (le z)) (by omega) (by omega) ?_ rfl
    rw [e1]
    refine hm _ (fun I2 L2 ρ2 hK2 => ?_)
    exact sg_Law_law_689 k n 1 12 186 (nI i) v v (fun _ => hnext (le z) I2 L2 ρ2 k n hK2 (by omega) (by omega)) (fun q => absurd rfl q) (fun q => absurd rfl q) (fun q => absurd rfl q)
  · refine PR.go (pr_stuck hJ) (fun v I1 L1 ρ1 e1 hm => ?_)
    refine sg_Law_law_698 k n 1 12 186 (nI i) v (by omega) (by omega) ?_ rfl
    refine hm _ (fun I2 L2 ρ2 hK2 => ?_)
    exact sg_Law_law_702 k n 1 12 186 (nI i) v v (fun _ => hnext (le z) I2 L2 ρ2 k n hK2 (by omega) (by omega)) (fun q => absurd rfl q) (fun q => absurd rfl q) (fun q => absurd rfl q)
  · refine PR.go (pr_order hJ) (fun v I1 L1 ρ1 e1 hm => ?_)
    refine sg_Law_law_716 k n 1 12 186 (nI i) v Lx rfl (hv 1 (by decide) (le z)) (by omega) (by omega) ?_ rfl
    rw [e1]
    refine hm _ (fun I2 L2 ρ2 hK2 => ?_)
    exact sg_Law_law_725 k n 1 12 186 (nI i) v v (fun _ => hnext (le z) I2 L2 ρ2 k n hK2 (by omega) (by omega)) (fun q => absurd rfl q) (fun q => absurd rfl q) (fun q => absurd rfl q)
  · refine PR.go (pr_dear hJ) (fun v I1 L1 ρ1 e1 hm => ?_)
    refine sg_Law_law_739 k n 1 12 186 (nI i) v Lx rfl (hv 1 (by decide) (le z)) (by omega) (by omega) ?_ rfl
    rw [e1]
    refine hm _ (fun I2 L2 ρ2 hK2 => ?_)
    exact sg_Law_law_748 k n 1 12 186 (nI i) v v (fun _ => hnext (le z) I2 L2 ρ2 k n hK2 (by omega) (by omega)) (fun q => absurd rfl q) (fun q => absurd rfl q) (fun q => absurd rfl q)
  · refine PR.go (pr_better hJ) (fun v I1 L1 ρ1 e1 hm => ?_)
    refine sg_Law_law_767 k n 1 12 186 (nI i) v Lx rfl (hv 1 (by decide) (le z)) (hv 2 (by decide) (le z)) (by omega) (by omega) ?_ rfl
    rw [e1]
    refine hm _ (fun I2 L2 ρ2 hK2 => ?_)
    exact sg_Law_law_781 k n 1 12 186 (nI i) v v (fun _ => hnext (le z) I2 L2 ρ2 k n hK2 (by omega) (by omega)) (fun q => absurd rfl q) (fun q => absurd rfl q) (fun q => absurd rfl q)
  · refine PR.go (pr_found hJ) (fun v I1 L1 ρ1 e1 hm => ?_)
    refine sg_Law_law_800 k n 1 12 186 (nI i) v Lx rfl (hv 1 (by decide) (le z)) (hv 2 (by decide) (le z)) (by omega) (by omega) ?_ rfl
    rw [e1]
    refine hm _ (fun I2 L2 ρ2 hK2 => ?_)
    exact sg_Law_law_814 k n 1 12 186 (nI i) v v (fun _ => hnext (le z) I2 L2 ρ2 k n hK2 (by omega) (by omega)) (fun q => absurd rfl q) (fun q => absurd rfl q) (fun q => absurd rfl q)
  · refine PR.go (pr_drove hJ) (fun v I1 L1 ρ1 e1 hm => ?_)
    refine sg_Law_law_833 k n 1 12 186 (nI i) v Lx rfl (hv 1 (by decide) (le z)) (hv 2 (by decide) (le z)) (by omega) (by omega) ?_ rfl
    rw [e1]
    refine hm _ (fun I2 L2 ρ2 hK2 => ?_)
    exact sg_Law_law_847 k n 1 12 186 (nI i) v v (fun _ => hnext (le z) I2 L2 ρ2 k n hK2 (by omega) (by omega)) (fun q => absurd rfl q) (fun q => absurd rfl q) (fun q => absurd rfl q)
  · refine PR.go (pr_seed hJ) (fun v I1 L1 ρ1 e1 hm => ?_)
    refine sg_Law_law_861 k n 1 12 186 (nI i) v Lx rfl (hv 1 (by decide) (le z)) (by omega) (by omega) ?_ rfl
    rw [e1]
    refine hm _ (fun I2 L2 ρ2 hK2 => ?_)
    exact sg_Law_law_870 k n 1 12 186 (nI i) v v (fun _ => hnext (le z) I2 L2 ρ2 k n hK2 (by omega) (by omega)) (fun q => absurd rfl q) (fun q => absurd rfl q) (fun q => absurd rfl q)
  · refine PR.go (pr_weeks hJ) (fun v I1 L1 ρ1 e1 hm => ?_)
    refine sg_Law_law_894 k n 1 12 186 (nI i) v Lx rfl (hv 1 (by decide) (le z)) (hv 2 (by decide) (le z)) (hv 3 (by decide) (le z)) (by omega) (by omega) ?_ rfl
    rw [e1]
    refine hm _ (fun I2 L2 ρ2 hK2 => ?_)
    exact sg_Law_law_913 k n 1 12 186 (nI i) v v (fun _ => hnext (le z) I2 L2 ρ2 k n hK2 (by omega) (by omega)) (fun q => absurd rfl q) (fun q => absurd rfl q) (fun q => absurd rfl q)
  · refine PR.go (pr_count hJ) (fun v I1 L1 ρ1 e1 hm => ?_)
    refine sg_Law_law_927 k n 1 12 186 (nI i) v Lx rfl (hv 1 (by decide) (le z)) (by omega) (by omega) ?_ rfl
    rw [e1]
    refine hm _ (fun I2 L2 ρ2 hK2 => ?_)
    exact sg_Law_law_936 k n 1 12 186 (nI i) v v (fun _ => hnext (le z) I2 L2 ρ2 k n hK2 (by omega) (by omega)) (fun q => absurd rfl q) (fun q => absurd rfl q) (fun q => absurd rfl q)
  · refine PR.go (pr_image hJ) (fun v I1 L1 ρ1 e1 hm => ?_)
    refine sg_Law_law_950 k n 1 12 186 (nI i) v Lx rfl (hv 1 (by decide) (le z)) (by omega) (by omega) ?_ rfl
    rw [e1]
    refine hm _ (fun I2 L2 ρ2 hK2 => ?_)
    exact sg_Law_law_959 k n 1 12 186 (nI i) v v (fun _ => hnext (le z) I2 L2 ρ2 k n hK2 (by omega) (by omega)) (fun q => absurd rfl q) (fun q => absurd rfl q) (fun q => absurd rfl q)
  · refine PR.go (pr_back hJ) (fun v I1 L1 ρ1 e1 hm => ?_)
    refine sg_Law_law_973 k n 1 12 186 (nI i) v Lx rfl (hv 1 (by decide) (le z)) (by omega) (by omega) ?_ rfl
    rw [e1]
    refine hm _ (fun I2 L2 ρ2 hK2 => ?_)
    exact sg_Law_law_982 k n 1 12 186 (nI i) v v (fun _ => hnext (le z) I2 L2 ρ2 k n hK2 (by omega) (by omega)) (fun q => absurd rfl q) (fun q => absurd rfl q) (fun q => absurd rfl q)
theorem lw_loop {Lx : Nat} {xs : Nat → Int32} (hL : Lx ≤ 3072) : ∀ F i I L ρ k n, Lx < i + 6 * (F + 1) → i ≤ 3078 → KK xs ρ I → k ≤ 201 + 3 * i → n ≤ 19057 + 802 * i → am_W am_all (am_run 40) e_Law_law lwQ 18 [.ref 1, .ref 12, .ref 186, .int (nI i)] [] I L (gg Lx ρ) k n := by
  intro F
  induction F with
  | zero =>
    intro i I L ρ k n hF hi hK hk hn
    exact lw_step hL hi hK (by omega) (by omega) (fun z => absurd z (by omega))
  | succ F ih =>
    intro i I L ρ k n hF hi hK hk hn
    refine lw_step hL hi hK (by omega) (by omega) (fun z I' L' ρ' k' n' hK' hk' hn' => ?_)
    have e : nI i + 6 = nI (i + 6) := nI_add i 6
    rw [e]
    have e1 : 802 * (i + 6) = 802 * i + 4812 := Nat.mul_add 802 i 6
    have h1 : n' ≤ 19057 + (802 * i + 4812) := Nat.le_trans hn' (Nat.le_trans (Nat.add_le_add_right hn 802) (by omega))
    exact ih (i + 6) I' L' ρ' k' n' (by omega) (by omega) hK' (by omega) (by rw [e1]; exact h1)
theorem KK_0 {xs : Nat → Int32} {I : am_I} (v : iv xs 187 I) (e95 : I 95 8 = -1) : KK xs [] (am_u I 198 6 (-1)) := by
  have z : ∀ a k, 12 ≤ a → a ≠ 198 → k ≠ 8 → am_u I 198 6 (-1) a k = 0 := fun a k h1 h2 h3 => by rw [am_u_ne h2]; exact v.2.2 a k h1 h3
  have f : ∀ k, k ≠ 6 → am_u I 198 6 (-1) 198 k = 0 := fun k h => by rw [am_u_nk h, v.2.1 198 (by decide)]
  have f6 : am_u I 198 6 (-1) 198 6 = -1 := am_u_at
  have neg : (-1 : Int32) < 0 := by decide
  refine ⟨by rw [am_u_ne (by decide)]; exact v.1, [], fun _ => 0, 0, 0, 0, 0, 0, ⟨tps.z (z 13 1 (by decide) (by decide) (by decide)) (z 186 1 (by decide) (by decide) (by decide)), ⟨⟨rfl, z 21 1 (by decide) (by decide) (by decide), fun k R h => ?_⟩, ⟨z 186 2 (by decide) (by decide) (by decide), fun k R h => ?_⟩, ⟨Nat.zero_le _, fun k R h => ?_⟩, 0, by decide, z 16 3 (by decide) (by decide) (by decide)⟩, fun k hk => ⟨?_, fun q => ?_⟩⟩, ⟨⟨?_, ?_, ?_, ?_, fun j hj => absurd hj (Nat.not_lt_zero j)⟩, z 94 9 (by decide) (by decide) (by decide), z 94 10 (by decide) (by decide) (by decide), ?_, fun j hj => absurd hj (Nat.not_lt_zero j), fun j hj => absurd hj (Nat.not_lt_zero j), fun j hj => absurd hj (Nat.not_lt_zero j)⟩, ?_⟩
  · exact absurd h (by simp)
  · exact absurd h (by simp)
  · exact absurd h (by simp)
  · rw [z 125 k (by decide) (by decide) (by omega), z 212 k (by decide) (by decide) (by omega)]
  · exact absurd (z 125 k (by decide) (by decide) (by omega)) q
  · exact (z 95 5 (by decide) (by decide) (by decide)).trans (f 0 (by decide)).symm
  · exact z 95 6 (by decide) (by decide) (by decide)
  · exact (z 95 7 (by decide) (by decide) (by decide)).trans (f 4 (by decide)).symm
  · exact (show am_u I 198 6 (-1) 95 8 = -1 by rw [am_u_ne (by decide)]; exact e95).trans f6.symm
  · rw [z 94 11 (by decide) (by decide) (by decide), f 5 (by decide)]
  · refine ⟨f 0 (by decide), Nat.zero_le _, f 1 (by decide), Nat.zero_le _, ⟨Nat.zero_le _, fun j hj => absurd hj (Nat.not_lt_zero j)⟩, f 2 (by decide), Nat.zero_le _, f 3 (by decide), Nat.zero_le _, ?_, ?_, fun j hj => absurd hj (Nat.not_lt_zero j), fun j hj => absurd hj (Nat.not_lt_zero j), fun j hj => absurd hj (Nat.not_lt_zero j)⟩
    · rw [f6]; exact fun q => absurd neg q
    · rw [f 5 (by decide)]; decide
theorem lw_law {Lx : Nat} {xs : Nat → Int32} (hL : Lx ≤ 3072) : am_W am_all (am_run 40) e_Law_law lwQ 0 [.ref 1, .null, .null, .null] [] (am_I0 xs) am_L0 (zG Lx []) 0 0 := by
  have v : iv xs 12 (am_I0 xs) := ⟨rfl, fun a ha => by funext k; exact if_neg (by omega), fun a k ha _ => if_neg (by omega)⟩
  refine sg_Law_law_0 1 (zC (N := 12) (as' := []) rfl (v.2.1 12 (by decide)) rfl ?_) nw_at
  refine sp_LL_init (d := 37) (v.w (by decide)) (fun I1 v1 e95 => ?_)
  refine sg_Law_law_7 _ _ 1 _ _ _ _ ?_
  refine sg_Law_law_8 _ _ 1 _ _ _ (by decide) (by decide) (by decide) (by decide) (zC (N := 186) (as' := []) (by decide +kernel) (v1.2.1 _ (by decide)) rfl ?_) nw_at
  refine sp_Model_init2 (d := 39) (v1.w (by decide)) ?_
  refine sg_Law_law_15 _ _ 1 _ _ _ _ ?_
  rw [show (zG Lx (zAll.take 174)).2.2 = 186 from nnP (by decide +kernel)]
  refine sg_Law_law_16 _ _ 1 _ _ _ ?_
  exact lw_loop hL 512 0 _ _ [] _ _ (by omega) (by omega) (KK_0 (v1.w (by decide)) e95) (by decide) (by decide)
