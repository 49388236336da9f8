/-! addQueue and setCapacity -/
section
variable {k c l n : Nat} {p g m : Nat → Nat} {z : cq_Z} {op : Nat → Int32}
theorem cq_D_new (hT : cq_T p n) (h1 : 1 ≤ n) {T' B' : Nat} (hD : cq_D T' B' n p z) (hS : cq_S z) {j : Nat} (hj : j < n) (hb : cq_cc p n j = 0 → cq_u p z j = 0) : cq_D T' B' (n + 1) (cq_up p n j) z := by
  obtain ⟨a, b, d, e⟩ := hD
  refine ⟨a, b, fun i hi => d i (by omega), fun i hi => ?_⟩
  obtain ⟨e1, e2, e3, e4, e5⟩ := e i hi
  refine ⟨by omega, e2, e3, e4, ?_⟩
  rw [cq_cc_new h1, e5, if_neg]
  simp only [beq_iff_eq]
  intro w
  subst w
  have h0 : 0 < cq_u p z (cq_cl z i) := cq_cnt_pos (hS i hi) (by simp [hi, cq_un_self])
  have := hb e5
  omega
theorem cq_J_new (hJ : cq_J c l n p g m) (hn : n < 16) {j a b : Nat} (hj : j < n) (ha : a ≤ 64) (hb : b ≤ 64) : cq_J c l (n + 1) (cq_up p n j) (cq_up g n a) (cq_up m n b) := by
  obtain ⟨⟨h1, h2, h3, h4, h5⟩, hT, hg, hm, h0⟩ := hJ
  refine ⟨⟨h1, h2, h3, by omega, by omega⟩, fun q q1 q2 => ?_, fun q => ?_, fun q => ?_, ?_⟩
  · by_cases w : q = n
    · subst w
      rw [cq_up_s]
      exact hj
    · rw [cq_up_n w]
      exact hT q q1 (by omega)
  · have := hg q
    unfold cq_up
    split <;> omega
  · have := hm q
    unfold cq_up
    split <;> omega
  · rw [cq_up_n (by omega)]
    exact h0
theorem cq_vAdd (hJ : cq_J c l n p g m) (hD : cq_D (64 * k) (64 * k) n p z) (hS : cq_S z) (hk : k + 4 ≤ 2050) (K : i_Rel (k + 4) (cq_X c l n p g m z op) (cq_Y c l n p g m z)) (v1 v2 v3 : Int32) : wpX_addQueue (fun r u' => wpY_addQueue (fun r' v' => r' = r ∧ i_Rel (k + 4) u' v') (cq_Y c l n p g m z) v1 v2 v3) (cq_X c l n p g m z op) v1 v2 v3 := by
  have hJ' := hJ
  obtain ⟨⟨h1, h2, h3, h4, hn⟩, hT, hg, hm, h0⟩ := hJ
  by_cases e16 : n = 16
  · subst e16
    exact br_t (by decide) (br_t (by decide) ⟨rfl, K⟩)
  have nX : ¬ (16 : Int32) ≤ nI n := nI_ge (b := 16) (by omega) (by decide)
  have nY : ¬ nI n = 16 := fun w => e16 ((nI_eq (b := 16) (by omega) (by decide)).mp w)
  refine br_f nX ?_
  rcases cq_ix3 (v := v1) (n := n) (by omega) with h | ⟨j, hj, rfl⟩
  · exact cq_x_isQueue_no h (br_t rfl (br_f nY (cq_noA h ⟨rfl, K⟩)))
  refine cq_x_isQueue hn hj (br_f (by decide) (cq_x_isBusyLeaf hn hD (by omega) hj ?_))
  have ij : vp_in (nI j) 16 := vp_in_nI (by omega) (by omega)
  have iN : vp_in (nI n) 16 := vp_in_nI (by omega) (by omega)
  have hu : cq_u p z j ≤ 64 := cq_us_le _ _ _ _
  -- how the reference comes to its second part
  have yb : ∀ post : Int32 → SY → Prop, (cq_by n p z j = true → post (-1) (cq_Y c l n p g m z)) → (cq_by n p z j = false → wY_addQueue_74 post (nI j) v2 v3 (nI c) (nI l) (nI n) (nI (cq_t z)) (cq_P p) (cq_A g) (cq_A m) (cq_A (cq_r z)) (cq_A (cq_id z)) (cq_A (cq_cl z)) (cq_A (cq_cu z)) (cq_V (cq_lv z))) → wpY_addQueue post (cq_Y c l n p g m z) (nI j) v2 v3 := by
    intro post ht hf
    refine br_f nY (cq_yesA hn hj (cq_y_hasChildren hT hn h4 (by omega) ?_))
    unfold cq_by at ht hf
    by_cases e : cq_cc p n j = 0
    · rw [cq_hc_f e]
      rw [show decide (cq_cc p n j = 0) = true by simpa using e, Bool.true_and] at ht hf
      refine br_t rfl (cq_y_usedOf hT hn hD (by omega) (pk_le (cq_u p z j) 0 (fun w => ?_) (fun w => ?_)))
      · rw [show decide (0 < cq_u p z j) = false by simp; omega, Bool.false_or] at ht hf
        exact Exists.intro 5 (cq_y_a46 hn hD (by omega) hj ht hf 4 0 5 (by omega) (by omega) (fun j hj => by omega))
      · rw [show decide (0 < cq_u p z j) = true by simpa using w, Bool.true_or] at ht
        exact ht rfl
    · rw [cq_hc_t e]
      rw [show decide (cq_cc p n j = 0) = false by simpa using e, Bool.false_and] at hf
      exact br_f (by decide) (hf rfl)
  cases eb : cq_by n p z j with
  | true => exact br_f (by decide) (yb _ (fun _ => ⟨rfl, K⟩) (fun w => absurd (eb.symm.trans w) (by decide)))
  | false =>
    refine br_t rfl ?_
    have yf : ∀ post : Int32 → SY → Prop, wY_addQueue_74 post (nI j) v2 v3 (nI c) (nI l) (nI n) (nI (cq_t z)) (cq_P p) (cq_A g) (cq_A m) (cq_A (cq_r z)) (cq_A (cq_id z)) (cq_A (cq_cl z)) (cq_A (cq_cu z)) (cq_V (cq_lv z)) → wpY_addQueue post (cq_Y c l n p g m z) (nI j) v2 v3 := fun post hp => yb post (fun w => absurd (eb.symm.trans w) (by decide)) (fun _ => hp)
    by_cases c1 : v2 < 0
    · exact br_t c1 (yf _ (br_t c1 ⟨rfl, K⟩))
    by_cases c2 : v3 < v2
    · exact br_f c1 (br_t c2 (yf _ (br_f c1 (br_t c2 ⟨rfl, K⟩))))
    by_cases c3 : v3 ≤ nI c
    · have c4 : v2 ≤ v3 := Int32.not_lt.mp c2
      obtain ⟨b, hb, rfl⟩ := cq_in1 (b := c) (fun w => c1 (Int32.lt_of_le_of_lt c4 w)) c3 (by omega)
      obtain ⟨a, ha, rfl⟩ := cq_in1 (b := b) c1 c4 (by omega)
      have hcs := cq_cs_le (p := p) hg j n
      have hgj := hg j
      have hck : cq_ck p g j 16 n = cq_cs p g j n := cq_ck_lo hn
      have hm1 : ∀ i, i < 16 → (nI i = -1 ↔ i = 16) := fun i hi => ⟨fun w => absurd w (cq_m1 (by omega)), fun w => by omega⟩
      have yg : ∀ post : Int32 → SY → Prop, (cq_cs p g j n + a ≤ g j → (vp_in (nI n) 16 ∧ ∀ a1, a1 = upd (cq_P p) (nI n).toNatClampNeg (nI j) → (vp_in (nI n) 16 ∧ ∀ a2, a2 = upd (cq_A g) (nI n).toNatClampNeg (nI a) → (vp_in (nI n) 16 ∧ ∀ a3, a3 = upd (cq_A m) (nI n).toNatClampNeg (nI b) → ∃ f : Nat, wY_addQueue_145 post (nI n) (nI c) (nI l) (nI n) (nI (cq_t z)) f 0 a1 a2 a3 (cq_A (cq_r z)) (cq_A (cq_id z)) (cq_A (cq_cl z)) (cq_A (cq_cu z)) (cq_V (cq_lv z)))))) → (¬ cq_cs p g j n + a ≤ g j → post (-1) (cq_Y c l n p g m z)) → wpY_addQueue post (cq_Y c l n p g m z) (nI j) (nI a) (nI b) := by
        intro post ht hf
        refine yf post (br_f c1 (br_f c2 (br_t c3 (cq_y_childSum (s := 16) hJ' (by omega) hm1 ?_))))
        rw [hck]
        exact ⟨ij, cq_if (d := cq_cs p g j n + a ≤ g j) (by rw [cq_rA g (by omega), nI_add]; exact nI_leI (by omega) (by omega)) ht hf⟩
      refine br_f c1 (br_f c2 (br_t c3 (cq_x_childGuarantees hJ' (by omega) ⟨ij, cq_if (d := cq_cs p g j n + a ≤ g j) (by rw [cq_rA g (by omega), nI_add]; exact nI_leI (by omega) (by omega)) (fun w => ?_) (fun w => yg _ (fun w' => absurd w' w) (fun _ => ⟨rfl, K⟩))⟩)))
      have hbu : cq_cc p n j = 0 → cq_u p z j = 0 := by
        intro e
        unfold cq_by at eb
        rw [show decide (cq_cc p n j = 0) = true by simpa using e, Bool.true_and] at eb
        simp only [Bool.or_eq_false_iff, decide_eq_false_iff_not] at eb
        omega
      have ecc : upd (cq_A (cq_cc p n)) (nI j).toNatClampNeg (cq_A (cq_cc p n) (nI j).toNatClampNeg + 1) = cq_A (cq_cc (cq_up p n j) (n + 1)) := by
        rw [cq_rA _ (by omega), nI_clamp (by omega), nI_1, cq_A_up]
        congr 1
        funext q
        rw [cq_cc_new h4]
        by_cases w : q = j
        · subst w
          rw [cq_up_s, if_pos (by simp)]
        · rw [cq_up_n w, if_neg (by simp; omega)]
          rfl
      have eu : cq_u (cq_up p n j) z = cq_u p z := by
        funext q
        exact cq_us_new hT (fun i hi => (hD.2.2.2 i hi).1) q
      have eP : upd (cq_P p) (nI n).toNatClampNeg (nI j) = cq_P (cq_up p n j) := by
        rw [nI_clamp (by omega)]
        exact cq_P_up p j (by omega)
      refine nm_r (nI_1 n) ⟨iN, nm_r eP ⟨ij, ij, nm_r ecc ⟨iN, nm_r (cq_w_set a (by omega)) ⟨iN, nm_r (cq_w_set b (by omega)) ?_⟩⟩⟩⟩
      refine yg _ (fun _ => ⟨iN, nm_r eP ⟨iN, nm_r (cq_w_set a (by omega)) ⟨iN, nm_r (cq_w_set b (by omega)) (Exists.intro 5 (cq_y_a145 (by omega) hD.2.2.1 ⟨rfl, ?_⟩ 4 0 5 (by omega) (by omega)))⟩⟩⟩) (fun w' => absurd w w')
      have K' := cq_K (op := op) (k := k) (cq_J_new hJ' (by omega) hj (show a ≤ 64 by omega) (show b ≤ 64 by omega)) (cq_D_up (cq_D_new hT h4 hD hS hj hbu) (by omega) (by omega)) hS
      unfold cq_X at K'
      rw [eu] at K'
      exact K'
    · exact br_f c1 (br_f c2 (br_f c3 (yf _ (br_f c1 (br_f c2 (br_f c3 ⟨rfl, K⟩))))))
theorem cq_J_set (hJ : cq_J c l n p g m) {j a b : Nat} (hj : j ≠ 0) (ha : a ≤ 64) (hb : b ≤ 64) : cq_J c l n p (cq_up g j a) (cq_up m j b) := by
  obtain ⟨hh, hT, hg, hm, h0⟩ := hJ
  refine ⟨hh, hT, fun q => ?_, fun q => ?_, ?_⟩
  · have := hg q
    unfold cq_up
    split <;> omega
  · have := hm q
    unfold cq_up
    split <;> omega
  · rw [cq_up_n (fun w => hj w.symm)]
    exact h0
theorem cq_vSet (hJ : cq_J c l n p g m) (hD : cq_D (64 * k) (64 * k) n p z) (hS : cq_S z) (hk : k + 4 ≤ 2050) (K : i_Rel (k + 4) (cq_X c l n p g m z op) (cq_Y c l n p g m z)) (v1 v2 v3 : Int32) : wpX_setCapacity (fun r u' => wpY_setCapacity (fun r' v' => r' = r ∧ i_Rel (k + 4) u' v') (cq_Y c l n p g m z) v1 v2 v3) (cq_X c l n p g m z op) v1 v2 v3 := by
  have hJ' := hJ
  obtain ⟨⟨h1, h2, h3, h4, hn⟩, hT, hg, hm, h0⟩ := hJ
  unfold wpX_setCapacity
  rcases cq_ix3 (v := v1) (n := n) (by omega) with h | ⟨j, hj, rfl⟩
  · refine cq_x_isQueue_no h (br_t rfl ?_)
    by_cases w : v1 < 1
    · exact br_t w ⟨rfl, K⟩
    · refine br_f w (br_f ?_ ⟨rfl, K⟩)
      rcases h with h | h
      · exact absurd (Int32.lt_trans h (by decide)) w
      · exact Int32.not_lt.mpr h
  refine cq_x_isQueue hn hj (br_f (by decide) ?_)
  by_cases j0 : j = 0
  · subst j0
    exact br_t rfl (br_t (by decide) ⟨rfl, K⟩)
  have ij : vp_in (nI j) 16 := vp_in_nI (by omega) (by omega)
  have hpj := hT j (by omega) hj
  have hu : cq_u p z j ≤ 64 := cq_us_le _ _ _ _
  have y1 : ∀ {P Q : Prop}, Q → ((nI j < 1 → P) ∧ (¬ nI j < 1 → ((nI j < nI n → Q) ∧ (¬ nI j < nI n → P)))) := fun hq => br_f (show ¬ nI j < nI 1 from nI_nlt (by omega) (by omega)) (br_t (nI_lt hj (by omega)) hq)
  refine br_f (nI_ne0 (by omega) (by omega)) ?_
  by_cases c1 : v2 < 0
  · exact br_t c1 (y1 (br_t c1 ⟨rfl, K⟩))
  by_cases c2 : v3 < v2
  · exact br_f c1 (br_t c2 (y1 (br_f c1 (br_f (Int32.not_le.mpr c2) ⟨rfl, K⟩))))
  have c4 : v2 ≤ v3 := Int32.not_lt.mp c2
  by_cases c3 : nI c < v3
  · exact br_f c1 (br_f c2 (br_t c3 (y1 (br_f c1 (br_t c4 (br_f (Int32.not_le.mpr c3) ⟨rfl, K⟩))))))
  have c5 : v3 ≤ nI c := Int32.not_lt.mp c3
  obtain ⟨b, hb, rfl⟩ := cq_in1 (b := c) (fun w => c1 (Int32.lt_of_le_of_lt c4 w)) c5 (by omega)
  obtain ⟨a, ha, rfl⟩ := cq_in1 (b := b) c1 c4 (by omega)
  have hcs := cq_cs_le (p := p) hg j n
  have hcp := cq_cs_le (p := p) hg (p j) n
  have hgj := hg j
  have hgp := hg (p j)
  have hck : cq_ck p g j 16 n = cq_cs p g j n := cq_ck_lo hn
  have hcj : cq_cs p g (p j) n = cq_ck p g (p j) j n + g j := cq_ck_hi hj j0 rfl
  have hm1 : ∀ i, i < 16 → (nI i = -1 ↔ i = 16) := fun i hi => ⟨fun w => absurd w (cq_m1 (by omega)), fun w => by omega⟩
  have ip : vp_in (nI (p j)) 16 := vp_in_nI (by omega) (by omega)
  refine br_f c1 (br_f c2 (br_f c3 ⟨ij, ?_⟩))
  by_cases c6 : cq_u p z j ≤ b
  · refine br_t (by rw [cq_rA _ (by omega)]; exact nI_le c6 (by omega)) (cq_x_childGuarantees hJ' (by omega) ?_)
    have y2 : ∀ {post : Int32 → SY → Prop}, (_ : wpY_childSum (fun r_20 => (r_20 ≤ nI a → (vp_in (nI j) 16 ∧ ∀ x4, x4 = cq_P p (nI j).toNatClampNeg → wpY_childSum (fun r_36 => (vp_in x4 16 ∧ ((r_36 + nI a ≤ cq_A g x4.toNatClampNeg → (vp_in (nI j) 16 ∧ ∀ a1, a1 = upd (cq_A g) (nI j).toNatClampNeg (nI a) → (vp_in (nI j) 16 ∧ ∀ a2, a2 = upd (cq_A m) (nI j).toNatClampNeg (nI b) → post 1 (nI c, nI l, nI n, nI (cq_t z), cq_P p, a1, a2, cq_A (cq_r z), cq_A (cq_id z), cq_A (cq_cl z), cq_A (cq_cu z), cq_V (cq_lv z))))) ∧ (¬ r_36 + nI a ≤ cq_A g x4.toNatClampNeg → post 0 (cq_Y c l n p g m z))))) (cq_Y c l n p g m z) x4 (nI j))) ∧ (¬ r_20 ≤ nI a → post 0 (cq_Y c l n p g m z))) (cq_Y c l n p g m z) (nI j) (-1)) → wpY_setCapacity post (cq_Y c l n p g m z) (nI j) (nI a) (nI b) := fun h => y1 (br_f c1 (br_t c4 (br_t c5 (cq_y_usedOf hT hn hD (by omega) (br_t (nI_le c6 (by omega)) h)))))
    by_cases c7 : cq_cs p g j n ≤ a
    · refine br_t (nI_le c7 (by omega)) ⟨ij, nm_r (cq_rPp p j0 (by omega)) (cq_x_childGuarantees hJ' (by omega) ⟨ij, nm_r (e' := nI (cq_ck p g (p j) j n)) (by rw [cq_rA g (by omega), pk_sub (by omega)]; congr 1; omega) ⟨ip, cq_if (d := cq_ck p g (p j) j n + a ≤ g (p j)) (by rw [cq_rA g (by omega), nI_add]; exact nI_leI (by omega) (by omega)) (fun w => ?_) (fun w => ?_)⟩⟩)⟩
      · refine ⟨ij, nm_r (cq_w_set a (by omega)) ⟨ij, nm_r (cq_w_set b (by omega)) (y2 (cq_y_childSum (s := 16) hJ' (by omega) hm1 ?_))⟩⟩
        rw [hck]
        refine br_t (nI_le c7 (by omega)) ⟨ij, nm_r (cq_rPp p j0 (by omega)) (cq_y_childSum (s := j) hJ' (by omega) (fun i hi => nI_eq (by omega) (by omega)) ⟨ip, cq_if (d := cq_ck p g (p j) j n + a ≤ g (p j)) (by rw [cq_rA g (by omega), nI_add]; exact nI_leI (by omega) (by omega)) (fun _ => ⟨ij, nm_r (cq_w_set a (by omega)) ⟨ij, nm_r (cq_w_set b (by omega)) ⟨rfl, ?_⟩⟩⟩) (fun w' => absurd w w')⟩)⟩
        exact cq_K (cq_J_set hJ' j0 (by omega) (by omega)) (cq_D_up hD (by omega) (by omega)) hS
      · refine y2 (cq_y_childSum (s := 16) hJ' (by omega) hm1 ?_)
        rw [hck]
        exact br_t (nI_le c7 (by omega)) ⟨ij, nm_r (cq_rPp p j0 (by omega)) (cq_y_childSum (s := j) hJ' (by omega) (fun i hi => nI_eq (by omega) (by omega)) ⟨ip, cq_if (d := cq_ck p g (p j) j n + a ≤ g (p j)) (by rw [cq_rA g (by omega), nI_add]; exact nI_leI (by omega) (by omega)) (fun w' => absurd w' w) (fun _ => ⟨rfl, K⟩)⟩)⟩
    · refine br_f (nI_ge (by omega) (by omega)) (y2 (cq_y_childSum (s := 16) hJ' (by omega) hm1 ?_))
      rw [hck]
      exact br_f (nI_ge (by omega) (by omega)) ⟨rfl, K⟩
  · refine br_f (by rw [cq_rA _ (by omega)]; exact nI_ge (by omega) (by omega)) ?_
    exact y1 (br_f c1 (br_t c4 (br_t c5 (cq_y_usedOf hT hn hD (by omega) (br_f (nI_ge (by omega) (by omega)) ⟨rfl, K⟩)))))
end
