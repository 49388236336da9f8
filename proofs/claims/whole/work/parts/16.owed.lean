theorem i_up {k : Nat} {u : SX} {v : SY} (h : i_Rel k u v) : i_Rel (k + 4) u v := by
  obtain ⟨c, l, n, p, g, m, z, op, e1, e2, hJ, hD, hS⟩ := h
  exact ⟨c, l, n, p, g, m, z, op, e1, e2, hJ, cq_D_up hD (by omega) (by omega), hS⟩
theorem i_vc0 (k0 : Int32) (k1 : Int32) : wpX_init (fun u => wpY_init (fun v => i_Rel 2 u v) k0 k1) k0 k1 := by
  obtain ⟨c, c1, c2, hc⟩ := cq_clamp k0
  obtain ⟨l, l1, l2, hl⟩ := cq_clamp k1
  have eP : upd (fun _ => 0) 0 (-1) = cq_P (fun _ => 0) := by
    funext j
    unfold upd cq_P
    by_cases w : j = 0
    · rw [if_pos w, if_pos w]
    · rw [if_neg w, if_neg w]
      rfl
  have eG : upd (fun _ => 0) 0 (nI c) = cq_A (cq_up (fun _ => 0) 0 c) := cq_A_up (fun _ => 0) 0 c
  have eC : cq_A (cq_cc (fun _ => 0) 1) = fun _ => 0 := by
    funext q
    rfl
  have eU : cq_A (cq_u (fun _ => 0) (1, fun _ => 0, fun _ => 0, fun _ => 0, fun _ => 0, fun _ => false)) = fun _ => 0 := by
    funext q
    exact congrArg nI (cq_cnt_0 (fun i _ => rfl))
  have eH : cq_A (cq_h (1, fun _ => 0, fun _ => 0, fun _ => 0, fun _ => 0, fun _ => false)) = fun _ => 0 := by
    funext q
    exact congrArg nI (cq_cnt_0 (fun i _ => rfl))
  have hcX : ∀ post : Int32 → Prop, post (nI c) → wpX_clampToUnits post k0 := fun post h => hc post h
  have hlX : ∀ post : Int32 → Prop, post (nI l) → wpX_clampToUnits post k1 := fun post h => hl post h
  unfold wpX_init
  refine hcX _ (hlX _ (nm_r eP (nm_r eG (nm_r eG ?_))))
  refine hc (fun r => wY_init_90 _ k1 r 0 0 0 0 (fun _ => 0) (fun _ => 0) (fun _ => 0) (fun _ => 0) (fun _ => 0) (fun _ => 0) (fun _ => 0) (fun _ => 0)) (hl (fun r => wY_init_115 _ r (nI c) 0 0 0 (fun _ => 0) (fun _ => 0) (fun _ => 0) (fun _ => 0) (fun _ => 0) (fun _ => 0) (fun _ => 0) (fun _ => 0)) (nm_r eP (nm_r eG (nm_r eG ?_))))
  refine ⟨c, l, 1, fun _ => 0, cq_up (fun _ => 0) 0 c, cq_up (fun _ => 0) 0 c, (1, fun _ => 0, fun _ => 0, fun _ => 0, fun _ => 0, fun _ => false), fun _ => 0, ?_, rfl, ⟨⟨c1, c2, l2, by omega, by omega⟩, fun q h1 h2 => by omega, fun q => ?_, fun q => ?_, cq_up_s _ _ _⟩, ⟨⟨by decide, by decide⟩, fun j => Nat.zero_le _, fun j _ => rfl, fun i hi => absurd hi (show ¬ (false = true) by decide)⟩, fun i hi => absurd hi (show ¬ (false = true) by decide)⟩
  · unfold cq_X
    rw [eC, eU, eH]
    rfl
  · show (if q = 0 then c else 0) ≤ 64
    split <;> omega
  · show (if q = 0 then c else 0) ≤ 64
    split <;> omega
theorem i_vc_addQueue {k : Nat} {u : SX} {v : SY} (I : i_Rel k u v) (hk : k + 4 ≤ 2050) (v1 : Int32) (v2 : Int32) (v3 : Int32) : wpX_addQueue (fun r u' => wpY_addQueue (fun r' v' => r' = r ∧ i_Rel (k + 4) u' v') v v1 v2 v3) u v1 v2 v3 := by
  obtain ⟨c, l, n, p, g, m, z, op, rfl, rfl, hJ, hD, hS⟩ := I
  have K : i_Rel (k + 4) (cq_X c l n p g m z op) (cq_Y c l n p g m z) := cq_K hJ (cq_D_up hD (by omega) (by omega)) hS
  exact cq_vAdd hJ hD hS hk K v1 v2 v3
theorem i_vc_setCapacity {k : Nat} {u : SX} {v : SY} (I : i_Rel k u v) (hk : k + 4 ≤ 2050) (v1 : Int32) (v2 : Int32) (v3 : Int32) : wpX_setCapacity (fun r u' => wpY_setCapacity (fun r' v' => r' = r ∧ i_Rel (k + 4) u' v') v v1 v2 v3) u v1 v2 v3 := by
  obtain ⟨c, l, n, p, g, m, z, op, rfl, rfl, hJ, hD, hS⟩ := I
  have K : i_Rel (k + 4) (cq_X c l n p g m z op) (cq_Y c l n p g m z) := cq_K hJ (cq_D_up hD (by omega) (by omega)) hS
  exact cq_vSet hJ hD hS hk K v1 v2 v3
theorem i_vc_submit {k : Nat} {u : SX} {v : SY} (I : i_Rel k u v) (hk : k + 4 ≤ 2050) (v1 : Int32) (v2 : Int32) (v3 : Int32) : wpX_submit (fun r u' => wpY_submit (fun r' v' => r' = r ∧ i_Rel (k + 4) u' v') v v1 v2 v3) u v1 v2 v3 := by
  obtain ⟨c, l, n, p, g, m, z, op, rfl, rfl, hJ, hD, hS⟩ := I
  have K : i_Rel (k + 4) (cq_X c l n p g m z op) (cq_Y c l n p g m z) := cq_K hJ (cq_D_up hD (by omega) (by omega)) hS
  have hn := hJ.1.2.2.2.2
  have h4 := hJ.1.2.2.2.1
  have hT := hJ.2.1
  unfold wpX_submit
  rcases cq_ix3 (v := v1) (n := n) (by omega) with h | ⟨j, hj, rfl⟩
  · exact cq_x_isLeaf_no h (br_t rfl (cq_noB h ⟨rfl, K⟩))
  · refine cq_x_isLeaf hn hj ?_
    by_cases e : cq_cc p n j = 0
    · rw [cq_hc_f e]
      refine br_f (by decide) ?_
      have yl : ∀ {P : Prop} {post : Int32 → Prop}, post 0 → (wpY_hasChildren post (cq_Y c l n p g m z) (nI j)) := fun hp => cq_y_hasChildren hT hn h4 (by omega) (by rw [cq_hc_f e]; exact hp)
      rcases cq_ix3 (v := v2) (n := 4) (by omega) with h | ⟨u, hu, rfl⟩
      · exact cq_x_isUser_no h (br_t rfl (cq_yesB hn hj (yl (P := True) (br_t rfl (cq_noU h ⟨rfl, K⟩)))))
      · refine cq_x_isUser hu (br_f (by decide) ?_)
        by_cases h1 : v3 < 1
        · exact br_t h1 (cq_yesB hn hj (yl (P := True) (br_t rfl (cq_yesU hu (br_t h1 ⟨rfl, K⟩)))))
        · by_cases h2 : v3 ≤ 64
          · obtain ⟨d, hd, rfl⟩ := cq_in1 (b := 64) (fun w => h1 (Int32.lt_trans w (by decide))) h2 (by decide)
            have ix : vp_in (nI j * 4 + nI u) 64 := by rw [cq_ix]; exact vp_in_nI (by omega) (by omega)
            have hr := hD.2.1 (j * 4 + u)
            refine br_f h1 (br_t h2 ⟨ix, ix, nm_r (cq_w_add d (by omega)) ?_⟩)
            refine cq_yesB hn hj (yl (P := True) (br_t rfl (cq_yesU hu (br_f h1 (br_t h2 ⟨ix, ix, nm_r (cq_w_add d (by omega)) ⟨rfl, ?_⟩⟩)))))
            exact cq_K (z := cq_sr z (j * 4 + u) (cq_r z (j * 4 + u) + d)) hJ (cq_D_up (cq_D_sr (B' := 64 * (k + 4)) hD (by omega) (by omega) (by omega)) (by omega) (Nat.le_refl _)) hS
          · exact br_f h1 (br_f h2 (cq_yesB hn hj (yl (P := True) (br_t rfl (cq_yesU hu (br_f h1 (br_f h2 ⟨rfl, K⟩)))))))
    · rw [cq_hc_t e]
      exact br_t rfl (cq_yesB hn hj (cq_y_hasChildren hT hn h4 (by omega) (by rw [cq_hc_t e]; exact br_f (by decide) ⟨rfl, K⟩)))
theorem i_vc_cancel {k : Nat} {u : SX} {v : SY} (I : i_Rel k u v) (hk : k + 4 ≤ 2050) (v1 : Int32) (v2 : Int32) : wpX_cancel (fun r u' => wpY_cancel (fun r' v' => r' = r ∧ i_Rel (k + 4) u' v') v v1 v2) u v1 v2 := by
  obtain ⟨c, l, n, p, g, m, z, op, rfl, rfl, hJ, hD, hS⟩ := I
  have K : i_Rel (k + 4) (cq_X c l n p g m z op) (cq_Y c l n p g m z) := cq_K hJ (cq_D_up hD (by omega) (by omega)) hS
  have hn := hJ.1.2.2.2.2
  have h4 := hJ.1.2.2.2.1
  have hT := hJ.2.1
  unfold wpX_cancel
  rcases cq_ix3 (v := v1) (n := n) (by omega) with h | ⟨j, hj, rfl⟩
  · exact cq_x_isLeaf_no h (br_t rfl (cq_noB h ⟨rfl, K⟩))
  · refine cq_x_isLeaf hn hj ?_
    by_cases e : cq_cc p n j = 0
    · rw [cq_hc_f e]
      refine br_f (by decide) ?_
      have yl : ∀ {P : Prop} {post : Int32 → Prop}, post 0 → (wpY_hasChildren post (cq_Y c l n p g m z) (nI j)) := fun hp => cq_y_hasChildren hT hn h4 (by omega) (by rw [cq_hc_f e]; exact hp)
      rcases cq_ix3 (v := v2) (n := 4) (by omega) with h | ⟨u, hu, rfl⟩
      · exact cq_x_isUser_no h (br_t rfl (cq_yesB hn hj (yl (P := True) (br_t rfl (cq_noU h ⟨rfl, K⟩)))))
      · refine cq_x_isUser hu (br_f (by decide) ?_)
        have ix : vp_in (nI j * 4 + nI u) 64 := by rw [cq_ix]; exact vp_in_nI (by omega) (by omega)
        refine ⟨ix, nm_e ⟨ix, nm_r (cq_w_zero (by omega)) ?_⟩⟩
        refine cq_yesB hn hj (yl (P := True) (br_t rfl (cq_yesU hu ⟨ix, nm_e ⟨ix, nm_r (cq_w_zero (by omega)) ⟨rfl, ?_⟩⟩⟩)))
        exact cq_K (z := cq_sr z (j * 4 + u) 0) hJ (cq_D_up (cq_D_sr (B' := 64 * (k + 4)) hD (by omega) (by omega) (by omega)) (by omega) (Nat.le_refl _)) hS
    · rw [cq_hc_t e]
      exact br_t rfl (cq_yesB hn hj (cq_y_hasChildren hT hn h4 (by omega) (by rw [cq_hc_t e]; exact br_f (by decide) ⟨rfl, K⟩)))
theorem i_vc_complete {k : Nat} {u : SX} {v : SY} (I : i_Rel k u v) (hk : k + 4 ≤ 2050) (v1 : Int32) : wpX_complete (fun r u' => wpY_complete (fun r' v' => r' = r ∧ i_Rel (k + 4) u' v') v v1) u v1 := by
  obtain ⟨c, l, n, p, g, m, z, op, rfl, rfl, hJ, hD, hS⟩ := I
  have K : i_Rel (k + 4) (cq_X c l n p g m z op) (cq_Y c l n p g m z) := cq_K hJ (cq_D_up hD (by omega) (by omega)) hS
  have hn := hJ.1.2.2.2.2
  have hT := hJ.2.1
  unfold wpX_complete
  by_cases h0 : 0 < v1
  · obtain ⟨d, hd, rfl⟩ := nI_of (x := v1) (fun w => Int32.lt_irrefl (Int32.lt_trans w h0))
    have hd0 : 0 < d := by
      rw [show (0 : Int32) = nI 0 from rfl, nI_ltI (by decide) hd] at h0
      exact h0
    refine cq_x_slotOf hD (by omega) hd0 hd ?_
    cases e : cq_fnd (cq_at z d) 0 64 with
    | none => exact br_t rfl (br_t h0 (Exists.intro 65 (cq_y_complete hD (by omega) hd 64 0 65 (by omega) (by omega) (fun _ => ⟨rfl, K⟩) (fun s es => absurd (e.symm.trans es) (by simp)))))
    | some s =>
      obtain ⟨a, _, b⟩ := cq_fnd_some e
      have hl : cq_lv z s = true := by
        unfold cq_at at a
        simp only [Bool.and_eq_true] at a
        exact a.1
      refine br_f (cq_m1 (by omega)) (cq_x_remove hT hn hD (by omega) hl ?_)
      refine br_t h0 (Exists.intro 65 (cq_y_complete hD (by omega) hd 64 0 65 (by omega) (by omega) (fun es => absurd (es.symm.trans e) (by simp)) (fun s' es => ⟨rfl, ?_⟩)))
      cases e.symm.trans es
      exact cq_K hJ (cq_D_up (cq_D_del hD s) (by omega) (by omega)) (cq_S_del hS s)
  · exact br_f h0 (br_t rfl (br_f h0 ⟨rfl, K⟩))
theorem i_vc_schedule {k : Nat} {u : SX} {v : SY} (I : i_Rel k u v) (hk : k + 4 ≤ 2050) : wpX_schedule (fun r u' => wpY_schedule (fun r' v' => r' = r ∧ i_Rel (k + 4) u' v') v) u := by
  obtain ⟨c, l, n, p, g, m, z, op, rfl, rfl, hJ, hD, hS⟩ := I
  have hh := hJ.1
  unfold wpX_schedule wpY_schedule
  refine cq_x_fill hJ (by omega) hD (by omega) (fun op' => cq_y_fill hJ (by omega) hD ⟨rfl, cq_K hJ ?_ (cq_S_fz c z hS)⟩)
  exact cq_D_up (cq_fz_D hJ.2.1 hh.2.2.2.1 hh.2.2.2.2 c _ z hD) (by omega) (by omega)
theorem i_vc_preempt {k : Nat} {u : SX} {v : SY} (I : i_Rel k u v) (hk : k + 4 ≤ 2050) : wpX_preempt (fun r u' => wpY_preempt (fun r' v' => r' = r ∧ i_Rel (k + 4) u' v') v) u := by
  obtain ⟨c, l, n, p, g, m, z, op, rfl, rfl, hJ, hD, hS⟩ := I
  have hh := hJ.1
  refine cq_x_preempt hJ hD (by omega) (by omega) (fun op' => cq_y_preempt hJ hD (by omega) (by omega) ⟨rfl, cq_K hJ ?_ (cq_S_pz 64 _ (cq_S_fz c z hS))⟩)
  exact cq_D_up (cq_pz_D 64 _ _ _ (cq_fz_D hJ.2.1 hh.2.2.2.1 hh.2.2.2.2 c _ z hD)) (by omega) (by omega)
theorem i_vc_queueCount {k : Nat} {u : SX} {v : SY} (I : i_Rel k u v) (hk : k + 4 ≤ 2050) : wpX_queueCount (fun r => wpY_queueCount (fun r' => r' = r ∧ i_Rel (k + 4) u v) v) u := by
  obtain ⟨c, l, n, p, g, m, z, op, rfl, rfl, hJ, hD, hS⟩ := I
  exact And.intro rfl (cq_K hJ (cq_D_up hD (by omega) (by omega)) hS)
theorem i_vc_parentOf {k : Nat} {u : SX} {v : SY} (I : i_Rel k u v) (hk : k + 4 ≤ 2050) (v1 : Int32) : wpX_parentOf (fun r => wpY_parentOf (fun r' => r' = r ∧ i_Rel (k + 4) u v) v v1) u v1 := by
  obtain ⟨c, l, n, p, g, m, z, op, rfl, rfl, hJ, hD, hS⟩ := I
  have K : i_Rel (k + 4) (cq_X c l n p g m z op) (cq_Y c l n p g m z) := cq_K hJ (cq_D_up hD (by omega) (by omega)) hS
  have hn := hJ.1.2.2.2.2
  unfold wpX_parentOf
  rcases cq_ix3 (v := v1) (n := n) (by omega) with h | ⟨j, hj, rfl⟩
  · exact cq_x_isQueue_no h (br_t rfl (cq_noA h ⟨rfl, K⟩))
  · have ij : vp_in (nI j) 16 := vp_in_nI (by omega) (by omega)
    exact cq_x_isQueue hn hj (br_f (by decide) ⟨ij, cq_yesA hn hj ⟨ij, rfl, K⟩⟩)
theorem i_vc_guarantee {k : Nat} {u : SX} {v : SY} (I : i_Rel k u v) (hk : k + 4 ≤ 2050) (v1 : Int32) : wpX_guarantee (fun r => wpY_guarantee (fun r' => r' = r ∧ i_Rel (k + 4) u v) v v1) u v1 := by
  obtain ⟨c, l, n, p, g, m, z, op, rfl, rfl, hJ, hD, hS⟩ := I
  have K : i_Rel (k + 4) (cq_X c l n p g m z op) (cq_Y c l n p g m z) := cq_K hJ (cq_D_up hD (by omega) (by omega)) hS
  have hn := hJ.1.2.2.2.2
  unfold wpX_guarantee
  rcases cq_ix3 (v := v1) (n := n) (by omega) with h | ⟨j, hj, rfl⟩
  · exact cq_x_isQueue_no h (br_t rfl (cq_noA h ⟨rfl, K⟩))
  · have ij : vp_in (nI j) 16 := vp_in_nI (by omega) (by omega)
    exact cq_x_isQueue hn hj (br_f (by decide) ⟨ij, cq_yesA hn hj ⟨ij, rfl, K⟩⟩)
theorem i_vc_maxCapacity {k : Nat} {u : SX} {v : SY} (I : i_Rel k u v) (hk : k + 4 ≤ 2050) (v1 : Int32) : wpX_maxCapacity (fun r => wpY_maxCapacity (fun r' => r' = r ∧ i_Rel (k + 4) u v) v v1) u v1 := by
  obtain ⟨c, l, n, p, g, m, z, op, rfl, rfl, hJ, hD, hS⟩ := I
  have K : i_Rel (k + 4) (cq_X c l n p g m z op) (cq_Y c l n p g m z) := cq_K hJ (cq_D_up hD (by omega) (by omega)) hS
  have hn := hJ.1.2.2.2.2
  unfold wpX_maxCapacity
  rcases cq_ix3 (v := v1) (n := n) (by omega) with h | ⟨j, hj, rfl⟩
  · exact cq_x_isQueue_no h (br_t rfl (cq_noA h ⟨rfl, K⟩))
  · have ij : vp_in (nI j) 16 := vp_in_nI (by omega) (by omega)
    exact cq_x_isQueue hn hj (br_f (by decide) ⟨ij, cq_yesA hn hj ⟨ij, rfl, K⟩⟩)
theorem i_vc_used {k : Nat} {u : SX} {v : SY} (I : i_Rel k u v) (hk : k + 4 ≤ 2050) (v1 : Int32) : wpX_used (fun r => wpY_used (fun r' => r' = r ∧ i_Rel (k + 4) u v) v v1) u v1 := by
  obtain ⟨c, l, n, p, g, m, z, op, rfl, rfl, hJ, hD, hS⟩ := I
  have K : i_Rel (k + 4) (cq_X c l n p g m z op) (cq_Y c l n p g m z) := cq_K hJ (cq_D_up hD (by omega) (by omega)) hS
  have hn := hJ.1.2.2.2.2
  unfold wpX_used
  rcases cq_ix3 (v := v1) (n := n) (by omega) with h | ⟨j, hj, rfl⟩
  · exact cq_x_isQueue_no h (br_t rfl (cq_noA h ⟨rfl, K⟩))
  · have ij : vp_in (nI j) 16 := vp_in_nI (by omega) (by omega)
    exact cq_x_isQueue hn hj (br_f (by decide) ⟨ij, cq_yesA hn hj (cq_y_usedOf hJ.2.1 hn hD (by omega) ⟨(cq_rA _ (by omega)).symm, K⟩)⟩)
theorem i_vc_pending {k : Nat} {u : SX} {v : SY} (I : i_Rel k u v) (hk : k + 4 ≤ 2050) (v1 : Int32) (v2 : Int32) : wpX_pending (fun r => wpY_pending (fun r' => r' = r ∧ i_Rel (k + 4) u v) v v1 v2) u v1 v2 := by
  obtain ⟨c, l, n, p, g, m, z, op, rfl, rfl, hJ, hD, hS⟩ := I
  have K : i_Rel (k + 4) (cq_X c l n p g m z op) (cq_Y c l n p g m z) := cq_K hJ (cq_D_up hD (by omega) (by omega)) hS
  have hn := hJ.1.2.2.2.2
  have h4 := hJ.1.2.2.2.1
  unfold wpX_pending
  rcases cq_ix3 (v := v1) (n := n) (by omega) with h | ⟨j, hj, rfl⟩
  · exact cq_x_isQueue_no h (br_t rfl (cq_noB h ⟨rfl, K⟩))
  · refine cq_x_isQueue hn hj (br_f (by decide) ?_)
    rcases cq_ix3 (v := v2) (n := 4) (by omega) with h | ⟨u, hu, rfl⟩
    · exact cq_x_isUser_no h (br_t rfl (cq_yesB hn hj (cq_noU h ⟨rfl, K⟩)))
    · have ix : vp_in (nI j * 4 + nI u) 64 := by rw [cq_ix]; exact vp_in_nI (by omega) (by omega)
      refine cq_x_isUser hu (br_f (by decide) (cq_x_isLeaf hn hj ?_))
      by_cases e : cq_cc p n j = 0
      · rw [cq_hc_f e]
        exact br_f (by decide) ⟨ix, cq_yesB hn hj (cq_yesU hu (cq_y_hasChildren hJ.2.1 hn h4 (by omega) (by rw [cq_hc_f e]; exact br_t rfl ⟨ix, rfl, K⟩)))⟩
      · rw [cq_hc_t e]
        exact br_t rfl (cq_yesB hn hj (cq_yesU hu (cq_y_hasChildren hJ.2.1 hn h4 (by omega) (by rw [cq_hc_t e]; exact br_f (by decide) ⟨rfl, K⟩))))
theorem i_vc_userUsed {k : Nat} {u : SX} {v : SY} (I : i_Rel k u v) (hk : k + 4 ≤ 2050) (v1 : Int32) (v2 : Int32) : wpX_userUsed (fun r => wpY_userUsed (fun r' => r' = r ∧ i_Rel (k + 4) u v) v v1 v2) u v1 v2 := by
  obtain ⟨c, l, n, p, g, m, z, op, rfl, rfl, hJ, hD, hS⟩ := I
  have K : i_Rel (k + 4) (cq_X c l n p g m z op) (cq_Y c l n p g m z) := cq_K hJ (cq_D_up hD (by omega) (by omega)) hS
  have hn := hJ.1.2.2.2.2
  have h4 := hJ.1.2.2.2.1
  unfold wpX_userUsed
  rcases cq_ix3 (v := v1) (n := n) (by omega) with h | ⟨j, hj, rfl⟩
  · exact cq_x_isQueue_no h (br_t rfl (cq_noB h ⟨rfl, K⟩))
  · refine cq_x_isQueue hn hj (br_f (by decide) ?_)
    rcases cq_ix3 (v := v2) (n := 4) (by omega) with h | ⟨u, hu, rfl⟩
    · exact cq_x_isUser_no h (br_t rfl (cq_yesB hn hj (cq_noU h ⟨rfl, K⟩)))
    · have ix : vp_in (nI j * 4 + nI u) 64 := by rw [cq_ix]; exact vp_in_nI (by omega) (by omega)
      refine cq_x_isUser hu (br_f (by decide) (cq_x_isLeaf hn hj ?_))
      by_cases e : cq_cc p n j = 0
      · rw [cq_hc_f e]
        refine br_f (by decide) ⟨ix, cq_yesB hn hj (cq_yesU hu (cq_y_hasChildren hJ.2.1 hn h4 (by omega) ?_))⟩
        rw [cq_hc_f e]
        refine br_t rfl (cq_y_userUsedOf hn hD hj hu ⟨?_, K⟩)
        rw [cq_ix, cq_rA _ (by omega)]
      · rw [cq_hc_t e]
        exact br_t rfl (cq_yesB hn hj (cq_yesU hu (cq_y_hasChildren hJ.2.1 hn h4 (by omega) (by rw [cq_hc_t e]; exact br_f (by decide) ⟨rfl, K⟩))))
theorem i_vc_userLimit {k : Nat} {u : SX} {v : SY} (I : i_Rel k u v) (hk : k + 4 ≤ 2050) : wpX_userLimit (fun r => wpY_userLimit (fun r' => r' = r ∧ i_Rel (k + 4) u v) v) u := by
  obtain ⟨c, l, n, p, g, m, z, op, rfl, rfl, hJ, hD, hS⟩ := I
  exact And.intro rfl (cq_K hJ (cq_D_up hD (by omega) (by omega)) hS)
theorem i_vc_containerInfo {k : Nat} {u : SX} {v : SY} (I : i_Rel k u v) (hk : k + 4 ≤ 2050) (v1 : Int32) : wpX_containerInfo (fun r => wpY_containerInfo (fun r' => r' = r ∧ i_Rel (k + 4) u v) v v1) u v1 := by
  obtain ⟨c, l, n, p, g, m, z, op, rfl, rfl, hJ, hD, hS⟩ := I
  have K : i_Rel (k + 4) (cq_X c l n p g m z op) (cq_Y c l n p g m z) := cq_K hJ (cq_D_up hD (by omega) (by omega)) hS
  unfold wpX_containerInfo
  by_cases h0 : 0 < v1
  · obtain ⟨d, hd, rfl⟩ := nI_of (x := v1) (fun w => Int32.lt_irrefl (Int32.lt_trans w h0))
    have hd0 : 0 < d := by
      rw [show (0 : Int32) = nI 0 from rfl, nI_ltI (by decide) hd] at h0
      exact h0
    refine cq_x_slotOf hD (by omega) hd0 hd ?_
    cases e : cq_fnd (cq_at z d) 0 64 with
    | none => exact br_t rfl (br_t h0 (Exists.intro 65 (cq_y_info hD (by omega) hd 64 0 65 (by omega) (by omega) (fun _ => ⟨rfl, K⟩) (fun s es => absurd (e.symm.trans es) (by simp)))))
    | some s =>
      obtain ⟨a, _, b⟩ := cq_fnd_some e
      have is : vp_in (nI s) 64 := vp_in_nI (by omega) (by omega)
      refine br_f (cq_m1 (by omega)) ⟨is, is, br_t h0 (Exists.intro 65 (cq_y_info hD (by omega) hd 64 0 65 (by omega) (by omega) (fun es => absurd (es.symm.trans e) (by simp)) (fun s' es => ⟨?_, K⟩)))⟩
      cases e.symm.trans es
      show nI (cq_cl z s * 4 + cq_cu z s) = cq_A (cq_cl z) (nI s).toNatClampNeg * 4 + cq_A (cq_cu z) (nI s).toNatClampNeg
      rw [cq_rA _ (by omega), cq_rA _ (by omega), cq_ix]
  · exact br_f h0 (br_t rfl (br_f h0 ⟨rfl, K⟩))
