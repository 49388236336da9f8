/-! the class's public methods, each against the pure state -/
def cq_In (b c l n : Nat) (p g m : Nat → Nat) (z : cq_Z) : Prop := cq_J c l n p g m ∧ cq_D (1 + b) b n p z ∧ cq_L n p m z ∧ cq_KK c n p g m
theorem cq_In_up {b b' c l n : Nat} {p g m : Nat → Nat} {z : cq_Z} (h : cq_In b c l n p g m z) (hb : b ≤ b') : cq_In b' c l n p g m z :=
  ⟨h.1, cq_D_up h.2.1 (by omega) hb, h.2.2.1, h.2.2.2⟩
theorem cq_cs_c2 {p p' g g' : Nat → Nat} {q : Nat} : ∀ {n}, (∀ i, i < n → p' i = p i ∧ g' i = g i) → cq_cs p' g' q n = cq_cs p g q n := by
  intro n
  induction n with
  | zero =>
    intro _
    rfl
  | succ n ih =>
    intro h
    rw [cq_cs_s, cq_cs_s, ih (fun i hi => h i (by omega)), (h n (by omega)).1, (h n (by omega)).2]
theorem cq_ck_c2 {p g g' : Nat → Nat} {q s : Nat} : ∀ {n}, (∀ i, i ≠ s → g' i = g i) → cq_ck p g' q s n = cq_ck p g q s n := by
  intro n h
  induction n with
  | zero => rfl
  | succ n ih =>
    show cq_ck p g' q s n + _ = cq_ck p g q s n + _
    rw [ih]
    by_cases e : n = s
    · subst e
      rw [if_neg (by simp), if_neg (by simp)]
    · rw [h n e]
section
variable {b c l n : Nat} {p g m : Nat → Nat} {z : cq_Z} {op : Nat → Int32}
theorem cq_KK_new (hT : cq_T p n) (h1 : 1 ≤ n) (hK : cq_KK c n p g m) {j x y : Nat} (hj : j < n) (hxy : x ≤ y) (hs : cq_cs p g j n + x ≤ g j) : cq_KK c (n + 1) (cq_up p n j) (cq_up g n x) (cq_up m n y) := by
  obtain ⟨k1, k2, k3⟩ := hK
  refine ⟨fun q hq => ?_, ?_, fun q hq => ?_⟩
  · by_cases w : q = n
    · subst w
      rw [cq_up_s, cq_up_s]
      exact hxy
    · rw [cq_up_n w, cq_up_n w]
      exact k1 q (by omega)
  · rw [cq_up_n (by omega)]
    exact k2
  · rw [cq_cs_s, cq_cs_c2 (p := p) (g := g) (fun i hi => ⟨cq_up_n (by omega), cq_up_n (by omega)⟩), cq_up_s, cq_up_s]
    by_cases w : q = n
    · subst w
      have e : ∀ k, k ≤ q → cq_cs p g q k = 0 := by
        intro k
        induction k with
        | zero =>
          intro _
          rfl
        | succ k ih =>
          intro hk
          rw [cq_cs_s, ih (by omega), if_neg]
          simp only [Bool.and_eq_true, Bool.not_eq_true', beq_eq_false_iff_ne, beq_iff_eq]
          rintro ⟨x1, x2⟩
          have := hT k (by omega) (by omega)
          omega
      rw [e q (Nat.le_refl _), if_neg (by simp; omega)]
      exact Nat.zero_le _
    · rw [cq_up_n w]
      have := k3 q (by omega)
      by_cases w2 : j = q
      · subst w2
        split <;> omega
      · rw [if_neg (by simp [w2])]
        omega
theorem cq_x_addQueue (hI : cq_In b c l n p g m z) (hb : b < 2 ^ 29) {post : Int32 → St2 → Prop} (hp : ∀ r n' p' g' m', cq_In b c l n' p' g' m' z → post r (cq_X c l n' p' g' m' z op)) (v1 v2 v3 : Int32) : wpX_addQueue post (cq_X c l n p g m z op) v1 v2 v3 := by
  obtain ⟨hJ, hD, hL, hK⟩ := hI
  have K : ∀ r, post r (cq_X c l n p g m z op) := fun r => hp r n p g m ⟨hJ, hD, hL, hK⟩
  have hJ' := hJ
  obtain ⟨⟨h1, h2, h3, h4, hn⟩, hT, hg, hm, h0⟩ := hJ
  by_cases e16 : n = 16
  · subst e16
    exact br_t (by decide) (K _)
  refine br_f (nI_ge (b := 16) (by omega) (by decide)) ?_
  rcases cq_ix3 (v := v1) (n := n) (by omega) with h | ⟨j, hj, rfl⟩
  · exact cq_x_isQueue_no h (br_t rfl (K _))
  refine cq_x_isQueue hn hj (br_f (by decide) (cq_x_isBusyLeaf hn hD (by omega) hj ?_))
  have ij : vp_in (nI j) 16 := vp_in_nI (by omega) (by omega)
  have iN : vp_in (nI n) 16 := vp_in_nI (by omega) (by omega)
  cases eb : cq_by n p z j with
  | true => exact br_f (by decide) (K _)
  | false =>
    refine br_t rfl ?_
    by_cases c1 : v2 < 0
    · exact br_t c1 (K _)
    by_cases c2 : v3 < v2
    · exact br_f c1 (br_t c2 (K _))
    by_cases c3 : v3 ≤ nI c
    · have c4 : v2 ≤ v3 := Int32.not_lt.mp c2
      obtain ⟨y, hy, rfl⟩ := cq_in1 (b := c) (fun w => c1 (Int32.lt_of_le_of_lt c4 w)) c3 (by omega)
      obtain ⟨x, hx, rfl⟩ := cq_in1 (b := y) c1 c4 (by omega)
      have hcs := cq_cs_le (p := p) hg j n
      have hgj := hg j
      refine br_f c1 (br_f c2 (br_t c3 (cq_x_childGuarantees hJ' (by omega) ⟨ij, cq_if (d := cq_cs p g j n + x ≤ g j) (by rw [cq_rA g (by omega), nI_add]; exact nI_leI (by omega) (by omega)) (fun w => ?_) (fun w => K _)⟩)))
      have hbu : cq_cc p n j = 0 → cq_u p z j = 0 := by
        intro e
        unfold cq_by at eb
        rw [show decide (cq_cc p n j = 0) = true by simpa using e, Bool.true_and] at eb
        simp only [Bool.or_eq_false_iff, decide_eq_false_iff_not] at eb
        omega
      have ecc : upd (cq_A (cq_cc p n)) (nI j).toNatClampNeg (cq_A (cq_cc p n) (nI j).toNatClampNeg + 1) = cq_A (cq_cc (cq_up p n j) (n + 1)) := by
        rw [cq_rA _ (by omega), nI_clamp (by omega), nI_1, cq_A_up]
        congr 1
        funext q
        rw [cq_cc_new h4]
        by_cases w : q = j
        · subst w
          rw [cq_up_s, if_pos (by simp)]
        · rw [cq_up_n w, if_neg (by simp; omega)]
          rfl
      have eu : cq_u (cq_up p n j) z = cq_u p z := by
        funext q
        exact cq_us_new hT (fun i hi => (hD.2.2.2 i hi).1) q
      have eP : upd (cq_P p) (nI n).toNatClampNeg (nI j) = cq_P (cq_up p n j) := by
        rw [nI_clamp (by omega)]
        exact cq_P_up p j (by omega)
      refine nm_r (nI_1 n) ⟨iN, nm_r eP ⟨ij, ij, nm_r ecc ⟨iN, nm_r (cq_w_set x (by omega)) ⟨iN, nm_r (cq_w_set y (by omega)) ?_⟩⟩⟩⟩
      have hL' : cq_L (n + 1) (cq_up p n j) (cq_up m n y) z := by
        refine ⟨fun q hq => ?_, hL.2.1, hL.2.2⟩
        rw [eu]
        by_cases w : q = n
        · subst w
          have : cq_u p z q = 0 := cq_us_16 hT (fun i hi => (hD.2.2.2 i hi).1) (Nat.le_refl _)
          omega
        · rw [cq_up_n w]
          exact hL.1 q (by omega)
      have K' := hp (nI n) (n + 1) (cq_up p n j) (cq_up g n x) (cq_up m n y) ⟨cq_J_new hJ' (by omega) hj (by omega) (by omega), cq_D_new hT h4 hD hL.2.1 hj hbu, hL', cq_KK_new hT h4 hK hj hx w⟩
      unfold cq_X at K'
      rw [eu] at K'
      exact K'
    · exact br_f c1 (br_f c2 (br_f c3 (K _)))
theorem cq_KK_set (hT : cq_T p n) (hK : cq_KK c n p g m) {j x y : Nat} (j0 : j ≠ 0) (hj : j < n) (hxy : x ≤ y) (hs1 : cq_cs p g j n ≤ x) (hs2 : cq_ck p g (p j) j n + x ≤ g (p j)) : cq_KK c n p (cq_up g j x) (cq_up m j y) := by
  obtain ⟨k1, k2, k3⟩ := hK
  have hpj := hT j (by omega) hj
  refine ⟨fun q hq => ?_, ?_, fun q hq => ?_⟩
  · by_cases w : q = j
    · subst w
      rw [cq_up_s, cq_up_s]
      exact hxy
    · rw [cq_up_n w, cq_up_n w]
      exact k1 q hq
  · rw [cq_up_n (fun w => j0 w.symm)]
    exact k2
  · by_cases w : p j = q
    · subst w
      rw [cq_ck_hi hj j0 rfl, cq_up_s, cq_up_n (show p j ≠ j by omega), cq_ck_c2 (g := g) (fun i hi => cq_up_n hi)]
      exact hs2
    · have ec : cq_cs p (cq_up g j x) q n = cq_cs p g q n := cq_cs_congr (fun i i0 i1 i2 => cq_up_n (fun e => by
        subst e
        exact w i2))
      rw [ec]
      by_cases w2 : q = j
      · subst w2
        rw [cq_up_s]
        exact hs1
      · rw [cq_up_n w2]
        exact k3 q hq
theorem cq_x_setCapacity (hI : cq_In b c l n p g m z) (hb : b < 2 ^ 29) {post : Int32 → St2 → Prop} (hp : ∀ r g' m', cq_In b c l n p g' m' z → post r (cq_X c l n p g' m' z op)) (v1 v2 v3 : Int32) : wpX_setCapacity post (cq_X c l n p g m z op) v1 v2 v3 := by
  obtain ⟨hJ, hD, hL, hK⟩ := hI
  have K : ∀ r, post r (cq_X c l n p g m z op) := fun r => hp r g m ⟨hJ, hD, hL, hK⟩
  have hJ' := hJ
  obtain ⟨⟨h1, h2, h3, h4, hn⟩, hT, hg, hm, h0⟩ := hJ
  unfold wpX_setCapacity
  rcases cq_ix3 (v := v1) (n := n) (by omega) with h | ⟨j, hj, rfl⟩
  · exact cq_x_isQueue_no h (br_t rfl (K _))
  refine cq_x_isQueue hn hj (br_f (by decide) ?_)
  by_cases j0 : j = 0
  · subst j0
    exact br_t rfl (K _)
  have ij : vp_in (nI j) 16 := vp_in_nI (by omega) (by omega)
  have hpj := hT j (by omega) hj
  have hu : cq_u p z j ≤ 64 := cq_us_le _ _ _ _
  refine br_f (nI_ne0 (by omega) (by omega)) ?_
  by_cases c1 : v2 < 0
  · exact br_t c1 (K _)
  by_cases c2 : v3 < v2
  · exact br_f c1 (br_t c2 (K _))
  have c4 : v2 ≤ v3 := Int32.not_lt.mp c2
  by_cases c3 : nI c < v3
  · exact br_f c1 (br_f c2 (br_t c3 (K _)))
  have c5 : v3 ≤ nI c := Int32.not_lt.mp c3
  obtain ⟨y, hy, rfl⟩ := cq_in1 (b := c) (fun w => c1 (Int32.lt_of_le_of_lt c4 w)) c5 (by omega)
  obtain ⟨x, hx, rfl⟩ := cq_in1 (b := y) c1 c4 (by omega)
  have hcs := cq_cs_le (p := p) hg j n
  have hcp := cq_cs_le (p := p) hg (p j) n
  have hgj := hg j
  have hgp := hg (p j)
  have hcj : cq_cs p g (p j) n = cq_ck p g (p j) j n + g j := cq_ck_hi hj j0 rfl
  have ip : vp_in (nI (p j)) 16 := vp_in_nI (by omega) (by omega)
  refine br_f c1 (br_f c2 (br_f c3 ⟨ij, cq_if (d := cq_u p z j ≤ y) (by rw [cq_rA _ (by omega)]; exact nI_leI (by omega) (by omega)) (fun c6 => cq_x_childGuarantees hJ' (by omega) (pk_le (cq_cs p g j n) x (fun c7 => ⟨ij, nm_r (cq_rPp p j0 (by omega)) (cq_x_childGuarantees hJ' (by omega) ⟨ij, nm_r (e' := nI (cq_ck p g (p j) j n)) (by rw [cq_rA g (by omega), pk_sub (by omega)]; congr 1; omega) ⟨ip, cq_if (d := cq_ck p g (p j) j n + x ≤ g (p j)) (by rw [cq_rA g (by omega), nI_add]; exact nI_leI (by omega) (by omega)) (fun w => ?_) (fun w => K _)⟩⟩)⟩) (fun c7 => K _))) (fun c6 => K _)⟩))
  refine ⟨ij, nm_r (cq_w_set x (by omega)) ⟨ij, nm_r (cq_w_set y (by omega)) (hp _ _ _ ⟨cq_J_set hJ' j0 (by omega) (by omega), hD, ⟨fun q hq => ?_, hL.2.1, hL.2.2⟩, cq_KK_set hT hK j0 hj hx c7 w⟩)⟩⟩
  by_cases w2 : q = j
  · subst w2
    rw [cq_up_s]
    exact c6
  · rw [cq_up_n w2]
    exact hL.1 q hq
theorem cq_x_submit (hI : cq_In b c l n p g m z) (hb : b < 2 ^ 29) {post : Int32 → St2 → Prop} (hp : ∀ r z', cq_In (b + 64) c l n p g m z' → cq_t z' = cq_t z → post r (cq_X c l n p g m z' op)) (v1 v2 v3 : Int32) : wpX_submit post (cq_X c l n p g m z op) v1 v2 v3 := by
  have K : ∀ r, post r (cq_X c l n p g m z op) := fun r => hp r z (cq_In_up hI (by omega)) rfl
  obtain ⟨hJ, hD, hL, hK⟩ := hI
  have hn := hJ.1.2.2.2.2
  unfold wpX_submit
  rcases cq_ix3 (v := v1) (n := n) (by omega) with h | ⟨j, hj, rfl⟩
  · exact cq_x_isLeaf_no h (br_t rfl (K _))
  refine cq_x_isLeaf hn hj (cq_b0 (fun _ => K _) (fun _ => ?_))
  rcases cq_ix3 (v := v2) (n := 4) (by omega) with h | ⟨u, hu, rfl⟩
  · exact cq_x_isUser_no h (br_t rfl (K _))
  refine cq_x_isUser hu (br_f (by decide) ?_)
  by_cases h1 : v3 < 1
  · exact br_t h1 (K _)
  by_cases h2 : v3 ≤ 64
  · obtain ⟨d, hd, rfl⟩ := cq_in1 (b := 64) (fun w => h1 (Int32.lt_trans w (by decide))) h2 (by decide)
    have ix : vp_in (nI j * 4 + nI u) 64 := by rw [cq_ix]; exact vp_in_nI (by omega) (by omega)
    have hr := hD.2.1 (j * 4 + u)
    exact br_f h1 (br_t h2 ⟨ix, ix, nm_r (cq_w_add d (by omega)) (hp _ (cq_sr z (j * 4 + u) (cq_r z (j * 4 + u) + d)) ⟨hJ, cq_D_up (cq_D_sr (B' := b + 64) hD (by omega) (by omega) (by omega)) (by omega) (Nat.le_refl _), hL, hK⟩ rfl)⟩)
  · exact br_f h1 (br_f h2 (K _))
theorem cq_x_cancel (hI : cq_In b c l n p g m z) (hb : b < 2 ^ 29) {post : Int32 → St2 → Prop} (hp : ∀ r z', cq_In b c l n p g m z' → cq_t z' = cq_t z → post r (cq_X c l n p g m z' op)) (v1 v2 : Int32) : wpX_cancel post (cq_X c l n p g m z op) v1 v2 := by
  have K : ∀ r, post r (cq_X c l n p g m z op) := fun r => hp r z hI rfl
  obtain ⟨hJ, hD, hL, hK⟩ := hI
  have hn := hJ.1.2.2.2.2
  unfold wpX_cancel
  rcases cq_ix3 (v := v1) (n := n) (by omega) with h | ⟨j, hj, rfl⟩
  · exact cq_x_isLeaf_no h (br_t rfl (K _))
  refine cq_x_isLeaf hn hj (cq_b0 (fun _ => K _) (fun _ => ?_))
  rcases cq_ix3 (v := v2) (n := 4) (by omega) with h | ⟨u, hu, rfl⟩
  · exact cq_x_isUser_no h (br_t rfl (K _))
  have ix : vp_in (nI j * 4 + nI u) 64 := by rw [cq_ix]; exact vp_in_nI (by omega) (by omega)
  exact cq_x_isUser hu (br_f (by decide) ⟨ix, nm_e ⟨ix, nm_r (cq_w_zero (by omega)) (hp _ (cq_sr z (j * 4 + u) 0) ⟨hJ, cq_D_sr hD (by omega) (Nat.le_refl _) (by omega), hL, hK⟩ rfl)⟩⟩)
theorem cq_L_del (h : cq_L n p m z) {v : Nat} (hv : v < 64) (hl : cq_lv z v = true) : cq_L n p m (cq_del z v) := by
  obtain ⟨h1, h2, h3⟩ := h
  have key : ∀ i, cq_lv (cq_del z v) i = true → cq_lv z i = true := by
    intro i hi
    have hi' : cq_ub (cq_lv z) v false i = true := hi
    by_cases w : i = v
    · subst w
      exact hl
    · rw [cq_ub_n w] at hi'
      exact hi'
  refine ⟨fun q hq => ?_, fun i hi => h2 i (key i hi), fun i j hi hj e => h3 i j (key i hi) (key j hj) e⟩
  have := h1 q hq
  have := cq_u_del p hv hl q
  omega
theorem cq_x_complete (hI : cq_In b c l n p g m z) (hb : b < 2 ^ 29) {post : Int32 → St2 → Prop} (hp : ∀ r z', cq_In b c l n p g m z' → cq_t z' = cq_t z → post r (cq_X c l n p g m z' op)) (v1 : Int32) : wpX_complete post (cq_X c l n p g m z op) v1 := by
  have K : ∀ r, post r (cq_X c l n p g m z op) := fun r => hp r z hI rfl
  obtain ⟨hJ, hD, hL, hK⟩ := hI
  have hn := hJ.1.2.2.2.2
  have hT := hJ.2.1
  unfold wpX_complete
  by_cases h0 : 0 < v1
  · obtain ⟨d, hd, rfl⟩ := nI_of (x := v1) (fun w => Int32.lt_irrefl (Int32.lt_trans w h0))
    have hd0 : 0 < d := by
      rw [show (0 : Int32) = nI 0 from rfl, nI_ltI (by decide) hd] at h0
      exact h0
    refine cq_x_slotOf hD (by omega) hd0 hd ?_
    cases e : cq_fnd (cq_at z d) 0 64 with
    | none => exact br_t rfl (K _)
    | some s =>
      obtain ⟨a, _, b'⟩ := cq_fnd_some e
      have hl : cq_lv z s = true := by
        unfold cq_at at a
        simp only [Bool.and_eq_true] at a
        exact a.1
      exact br_f (cq_m1 (by omega)) (cq_x_remove hT hn hD (by omega) hl (hp _ (cq_del z s) ⟨hJ, cq_D_del hD s, cq_L_del hL (by omega) hl, hK⟩ rfl))
  · exact br_f h0 (br_t rfl (K _))
theorem cq_x_schedule (hI : cq_In b c l n p g m z) (hb : b < 2 ^ 29) {post : Int32 → St2 → Prop} (hp : ∀ k z' op', cq_In (b + 64) c l n p g m z' → cq_t z' = cq_t z + k → k ≤ 2 ^ 20 → post (nI k) (cq_X c l n p g m z' op')) : wpX_schedule post (cq_X c l n p g m z op) := by
  obtain ⟨hJ, hD, hL, hK⟩ := hI
  have hh := hJ.1
  unfold wpX_schedule
  refine cq_x_fill hJ (by omega) hD (by omega) (fun op' => ?_)
  obtain ⟨e1, e2, e3⟩ := cq_fz_L hJ c _ z hD hL
  have hu : cq_u p (cq_fz l n p g m c z) 0 ≤ 64 := cq_us_le _ _ _ _
  exact hp _ (cq_fz l n p g m c z) op' ⟨hJ, cq_D_up (cq_fz_D hJ.2.1 hh.2.2.2.1 hh.2.2.2.2 c _ z hD) (by omega) (by omega), e1, hK⟩ e2 (by omega)
theorem cq_pn_le : ∀ d z, cq_pn l n p g m d z ≤ d := by
  intro d
  induction d with
  | zero =>
    intro z
    exact Nat.le_refl _
  | succ d ih =>
    intro z
    rw [cq_pn_s]
    cases e : cq_rd l n p g m z with
    | none => exact Nat.zero_le _
    | some z' =>
      have := ih z'
      show cq_pn l n p g m d z' + 1 ≤ d + 1
      omega
theorem cq_x_pre (hI : cq_In b c l n p g m z) (hb : b < 2 ^ 29) {post : Int32 → St2 → Prop} (hp : ∀ k j z' op', cq_In (b + 128) c l n p g m z' → cq_t z' = cq_t z + k + j → cq_u p z' 0 = cq_u p z 0 + k → cq_sv l n p g z' = none → k ≤ 64 → j ≤ 2 ^ 20 → post (nI j) (cq_X c l n p g m z' op')) : wpX_preempt post (cq_X c l n p g m z op) := by
  obtain ⟨hJ, hD, hL, hK⟩ := hI
  have hh := hJ.1
  refine cq_x_preempt hJ hD (by omega) (by omega) (fun op' => ?_)
  obtain ⟨e1, e2, e3⟩ := cq_fz_L hJ c _ z hD hL
  have hDf := cq_fz_D (g := g) (m := m) (l := l) hJ.2.1 hh.2.2.2.1 hh.2.2.2.2 c _ z hD
  have hof := cq_fz_off hJ c _ z hD (by omega)
  have hN := cq_N_0 hJ.2.1 e1 hof
  have hdn := cq_dn_le hJ.2.1 hh.2.2.2.1 hK (cq_fz l n p g m c z)
  obtain ⟨f1, f2, f3, f4⟩ := cq_pz_ok hJ hK 64 _ _ _ hDf e1 hN (by omega)
  have hDp := cq_pz_D (l := l) (n := n) (p := p) (g := g) (m := m) 64 _ _ _ hDf
  have hu : cq_u p (cq_fz l n p g m c z) 0 ≤ 64 := cq_us_le _ _ _ _
  have ht := hDp.1.2
  exact hp (cq_fn l n p g m c z) _ _ op' ⟨hJ, cq_D_up hDp (by omega) (by omega), f1, hK⟩ (by rw [f3, e2]) (by rw [f4, e3]) f2 (by omega) (Nat.le_trans (cq_pn_le 64 _) (by decide))
end
