/-! the law's choice of an operation, and its turn -/
section
variable {b c l n : Nat} {p g m : Nat → Nat} {z : cq_Z} {op : Nat → Int32} {post : Int32 → Prop} {L : Nat} {xs : Nat → Int32} {J45 : Int32 → Int32 → Int32 → Int32 → Int32 → Int32 → Int64 → (Nat → Int32) → (Nat → Int32) → (Nat → Int32) → (Nat → Int32) → (Nat → Int32) → (Nat → Int32) → (Nat → Int32) → (Nat → Int64) → (Nat → Int32) → (Nat → Int32) → (Nat → Int32) → Prop} {x1 x4 x5 x6 x10 x11 x12 x13 x15 : Int32} {kc ks M : Nat}
theorem cq_l_462 (hT : cq_T p n) (hn : n ≤ 16) {J449 : Int32 → Int32 → Prop} {q k : Nat} (hq : q < n) (hl : cq_cc p n q = 0 → J449 (nI (k + 1)) (nI (q + 1))) (hi : cq_cc p n q ≠ 0 → J449 (nI k) (nI (q + 1))) : ∀ d i f, i + d = n → d < f → wL_law_462 post L xs J45 J449 x1 x4 x5 x6 (nI n) x10 x11 x12 x13 (nI k) (nI q) kc ks (nI c) (nI l) (nI n) (lN (cq_t z)) (cq_P p) (cq_A (cq_cc p n)) (cq_A g) (cq_A m) (cq_A (cq_u p z)) (cq_A (cq_r z)) (cq_A (cq_h z)) (cq_G (cq_lv z) (cq_id z)) (cq_A (cq_cl z)) (cq_A (cq_cu z)) op f (cq_bI (decide (cq_cc p i q = 0))) (nI i) := by
  intro d
  induction d with
  | zero =>
    intro i f hd hf
    obtain ⟨f, rfl⟩ : ∃ k, f = k + 1 := ⟨f - 1, by omega⟩
    have e : i = n := by omega
    subst e
    exact pk_le i i (fun _ => cq_b0 (fun w => nm_r (nI_1 q) (hi (by simpa using w))) (fun w => nm_r (nI_1 k) (nm_r (nI_1 q) (hl (by simpa using w))))) (fun h => by omega)
  | succ d ih =>
    intro i f hd hf
    obtain ⟨f, rfl⟩ : ∃ k, f = k + 1 := ⟨f - 1, by omega⟩
    have ih' := ih (i + 1) f (by omega) (by omega)
    rw [cq_cc_s] at ih'
    refine pk_le n i (fun h => by omega) (fun _ => cq_x_parentOf hn (by omega) ?_)
    by_cases k0 : i = 0
    · subst k0
      exact br_f (cq_pe0 (by omega)) (nm_r (nI_1 0) ih')
    · refine cq_if (cq_pe hT hn k0 (by omega) (by omega)) (fun e => nm_r (nI_1 i) ?_) (fun e => nm_r (nI_1 i) ?_)
      · have w : (!(i == 0) && (p i == q)) = true := by simp [k0, e]
        rw [if_pos w, show decide (cq_cc p i q + 1 = 0) = false by simp] at ih'
        exact ih'
      · have w : ¬ (!(i == 0) && (p i == q)) = true := by simp [e]
        rw [if_neg w] at ih'
        exact ih'
theorem cq_last (hT : cq_T p n) (h1 : 1 ≤ n) : cq_cc p n (n - 1) = 0 := by
  refine cq_cnt_0 fun j hj => ?_
  by_cases h0 : j = 0
  · simp [h0]
  · have := hT j (by omega) hj
    have w : p j ≠ n - 1 := by omega
    simp [w]
theorem cq_l_449 (hT : cq_T p n) (hn : n ≤ 16) (h1 : 1 ≤ n) (hE : ∀ k f, 1 ≤ k → k ≤ 16 → wL_law_449 post L xs J45 x1 x4 x5 x6 (nI n) x10 x11 x12 x13 kc ks (nI c) (nI l) (nI n) (lN (cq_t z)) (cq_P p) (cq_A (cq_cc p n)) (cq_A g) (cq_A m) (cq_A (cq_u p z)) (cq_A (cq_r z)) (cq_A (cq_h z)) (cq_G (cq_lv z) (cq_id z)) (cq_A (cq_cl z)) (cq_A (cq_cu z)) op (f + 1) (nI k) (nI n)) : ∀ d q f k, q + d = n → d < f → k ≤ q → ((∃ j, j < q ∧ cq_cc p n j = 0) → 1 ≤ k) → wL_law_449 post L xs J45 x1 x4 x5 x6 (nI n) x10 x11 x12 x13 kc ks (nI c) (nI l) (nI n) (lN (cq_t z)) (cq_P p) (cq_A (cq_cc p n)) (cq_A g) (cq_A m) (cq_A (cq_u p z)) (cq_A (cq_r z)) (cq_A (cq_h z)) (cq_G (cq_lv z) (cq_id z)) (cq_A (cq_cl z)) (cq_A (cq_cu z)) op f (nI k) (nI q) := by
  intro d
  induction d with
  | zero =>
    intro q f k hd hf hk hh
    obtain ⟨f, rfl⟩ : ∃ k, f = k + 1 := ⟨f - 1, by omega⟩
    have e : q = n := by omega
    subst e
    exact hE k f (hh ⟨q - 1, by omega, cq_last hT h1⟩) (by omega)
  | succ d ih =>
    intro q f k hd hf hk hh
    obtain ⟨f, rfl⟩ : ∃ k, f = k + 1 := ⟨f - 1, by omega⟩
    refine pk_le n q (fun h => by omega) (fun _ => Exists.intro (n + 1) (cq_l_462 hT hn (by omega) (fun e => ih (q + 1) f (k + 1) (by omega) (by omega) (by omega) (fun _ => by omega)) (fun e => ih (q + 1) f k (by omega) (by omega) (by omega) ?_) n 0 (n + 1) (by omega) (by omega)))
    rintro ⟨j, j1, j2⟩
    refine hh ⟨j, ?_, j2⟩
    by_cases w : j = q
    · subst w
      exact absurd j2 e
    · omega
theorem cq_l_534 (hn : n ≤ 16) {J521 : Int32 → Int32 → Int32 → Prop} {q j : Nat} {x17 : Int32} (hq : q < n) (hj : j < n) (hN : ∀ j w, j < n → J521 (nI j) w (nI (q + 1))) : ∀ d i f x19, i + d = n → d < f → wL_law_534 post L xs J45 J521 x1 x4 x5 x6 (nI n) x10 x11 x12 x13 x15 (nI j) x17 (nI q) kc ks (nI c) (nI l) (nI n) (lN (cq_t z)) (cq_P p) (cq_A (cq_cc p n)) (cq_A g) (cq_A m) (cq_A (cq_u p z)) (cq_A (cq_r z)) (cq_A (cq_h z)) (cq_G (cq_lv z) (cq_id z)) (cq_A (cq_cl z)) (cq_A (cq_cu z)) op f x19 (nI i) := by
  intro d
  induction d with
  | zero =>
    intro i f x19 hd hf
    obtain ⟨f, rfl⟩ : ∃ k, f = k + 1 := ⟨f - 1, by omega⟩
    exact pk_le n i (fun _ => br_c (fun _ => nm_r (nI_1 q) (hN j _ hj)) (fun _ => br_c (fun _ => nm_e (nm_r (nI_1 q) (hN q _ hq))) (fun _ => nm_e (nm_r (nI_1 q) (hN j _ hj))))) (fun h => by omega)
  | succ d ih =>
    intro i f x19 hd hf
    obtain ⟨f, rfl⟩ : ∃ k, f = k + 1 := ⟨f - 1, by omega⟩
    exact pk_le n i (fun h => by omega) (fun _ => cq_x_parentOf hn (by omega) (br_c (fun _ => nm_r (nI_1 i) (ih (i + 1) f 0 (by omega) (by omega))) (fun _ => nm_r (nI_1 i) (ih (i + 1) f x19 (by omega) (by omega)))))
theorem cq_l_521 (hn : n ≤ 16) (hE : ∀ j w f, j < n → wL_law_521 post L xs J45 x1 x4 x5 x6 (nI n) x10 x11 x12 x13 x15 kc ks (nI c) (nI l) (nI n) (lN (cq_t z)) (cq_P p) (cq_A (cq_cc p n)) (cq_A g) (cq_A m) (cq_A (cq_u p z)) (cq_A (cq_r z)) (cq_A (cq_h z)) (cq_G (cq_lv z) (cq_id z)) (cq_A (cq_cl z)) (cq_A (cq_cu z)) op (f + 1) (nI j) w (nI n)) : ∀ d q f j w, q + d = n → d < f → j < n → wL_law_521 post L xs J45 x1 x4 x5 x6 (nI n) x10 x11 x12 x13 x15 kc ks (nI c) (nI l) (nI n) (lN (cq_t z)) (cq_P p) (cq_A (cq_cc p n)) (cq_A g) (cq_A m) (cq_A (cq_u p z)) (cq_A (cq_r z)) (cq_A (cq_h z)) (cq_G (cq_lv z) (cq_id z)) (cq_A (cq_cl z)) (cq_A (cq_cu z)) op f (nI j) w (nI q) := by
  intro d
  induction d with
  | zero =>
    intro q f j w hd hf hj
    obtain ⟨f, rfl⟩ : ∃ k, f = k + 1 := ⟨f - 1, by omega⟩
    have e : q = n := by omega
    subst e
    exact hE j w f hj
  | succ d ih =>
    intro q f j w hd hf hj
    obtain ⟨f, rfl⟩ : ∃ k, f = k + 1 := ⟨f - 1, by omega⟩
    exact pk_le n q (fun h => by omega) (fun _ => Exists.intro (n + 1) (cq_l_534 hn (by omega) hj (fun j' w' hj' => ih (q + 1) f j' w' (by omega) (by omega) hj') n 0 (n + 1) 1 (by omega) (by omega)))
/-- what the next turn asks for -/
def cq_Nx (J45 : Int32 → Int32 → Int32 → Int32 → Int32 → Int32 → Int64 → (Nat → Int32) → (Nat → Int32) → (Nat → Int32) → (Nat → Int32) → (Nat → Int32) → (Nat → Int32) → (Nat → Int32) → (Nat → Int64) → (Nat → Int32) → (Nat → Int32) → (Nat → Int32) → Prop) (b c l i : Nat) : Prop := ∀ (n : Nat) (p g m : Nat → Nat) (z : cq_Z) (op : Nat → Int32) (x5 : Int32) (M : Nat), cq_In (b + 128) c l n p g m z → M + 1 = cq_t z → (x5 = 0 ∨ cq_sv l n p g z = none) → J45 (nI M) x5 (nI (i + 4)) (nI c) (nI l) (nI n) (lN (cq_t z)) (cq_P p) (cq_A (cq_cc p n)) (cq_A g) (cq_A m) (cq_A (cq_u p z)) (cq_A (cq_r z)) (cq_A (cq_h z)) (cq_G (cq_lv z) (cq_id z)) (cq_A (cq_cl z)) (cq_A (cq_cu z)) op
theorem cq_l_op (hI : cq_In b c l n p g m z) (hb : b < 2 ^ 28) (hM : M + 1 = cq_t z) {i : Nat} (hJ : cq_Nx J45 b c l i) (j : Nat) (hj : j < n) (w : Int32) (f : Nat) : wL_law_521 post L xs J45 (nI c) (nI M) 0 (nI i) (nI n) x10 x11 x12 x13 x15 kc ks (nI c) (nI l) (nI n) (lN (cq_t z)) (cq_P p) (cq_A (cq_cc p n)) (cq_A g) (cq_A m) (cq_A (cq_u p z)) (cq_A (cq_r z)) (cq_A (cq_h z)) (cq_G (cq_lv z) (cq_id z)) (cq_A (cq_cl z)) (cq_A (cq_cu z)) op (f + 1) (nI j) w (nI n) := by
  have hJJ := hI.1
  have hh := hI.1.1
  have ht := hI.2.1.1.2
  have hn := hh.2.2.2.2
  have e4 : nI i + 4 = nI (i + 4) := nI_add i 4
  have e1 : nI c / 2 + 1 = nI (c / 2 + 1) := by
    rw [show (2 : Int32) = nI 2 from rfl, pk_div (by omega) (by decide) (by decide), nI_1]
  have hK : ∀ z', cq_In (b + 128) c l n p g m z' → cq_t z' = cq_t z → ∀ op', J45 (nI M) 0 (nI (i + 4)) (nI c) (nI l) (nI n) (lN (cq_t z')) (cq_P p) (cq_A (cq_cc p n)) (cq_A g) (cq_A m) (cq_A (cq_u p z')) (cq_A (cq_r z')) (cq_A (cq_h z')) (cq_G (cq_lv z') (cq_id z')) (cq_A (cq_cl z')) (cq_A (cq_cu z')) op' := fun z' h e op' => hJ n p g m z' op' 0 M h (by omega) (Or.inl rfl)
  refine pk_le n n (fun _ => ⟨by decide, ?_⟩) (fun h => by omega)
  rw [e1]
  refine cq_l_mod (by omega) (by omega) (fun r hr => ?_)
  have e2 : nI c - nI r + 1 = nI (c - r + 1) := by rw [pk_sub (by omega), nI_1]
  rw [e2]
  refine cq_l_mod (by omega) (by omega) (fun s hs => nm_r (nI_add _ _) ?_)
  refine br_c (fun _ => br_c (fun _ => br_c (fun _ => ?_) (fun _ => br_c (fun _ => ?_) (fun _ => br_c (fun _ => ?_) (fun _ => br_c (fun _ => ?_) (fun _ => ?_))))) (fun _ => ?_)) (fun _ => ?_)
  · exact cq_x_schedule hI (by omega) (fun k z' op' h e hk => nm_r (nI_add _ _) (nm_r e4 (hJ n p g m z' op' 0 (M + k) (cq_In_up h (by omega)) (by omega) (Or.inl rfl))))
  · refine cq_x_used (j := 0) hn (by omega) (cq_x_pre hI (by omega) (fun k j' z' op' h e eu es hk hj' => cq_x_used (j := 0) hn (by omega) ?_))
    have hu : cq_u p z 0 ≤ 64 := cq_us_le _ _ _ _
    refine nm_r (e' := nI (M + (k + j'))) ?_ (nm_r e4 (hJ n p g m z' op' 1 (M + (k + j')) h (by omega) (Or.inr es)))
    rw [eu, pk_sub (by omega), nI_add, nI_add, show cq_u p z 0 + k - cq_u p z 0 = k by omega]
  · refine cq_l_mod (k := 2) (by decide) (by decide) (fun r2 _ => br_c (fun _ => ?_) (fun _ => ?_))
    · exact cq_l_mod (k := 8) (by decide) (by decide) (fun r3 _ => cq_x_complete hI (by omega) (fun r4 z' h e => nm_r e4 (hK z' (cq_In_up h (by omega)) e op)) _)
    · rw [nI_1]
      exact cq_l_mod (by omega) (by omega) (fun r3 _ => cq_x_complete hI (by omega) (fun r4 z' h e => nm_r e4 (hK z' (cq_In_up h (by omega)) e op)) _)
  · exact cq_l_mod (k := 4) (by decide) (by decide) (fun r2 _ => cq_x_cancel hI (by omega) (fun r4 z' h e => nm_r e4 (hK z' (cq_In_up h (by omega)) e op)) _ _)
  · exact cq_l_mod (by omega) (by omega) (fun r2 _ => cq_x_setCapacity hI (by omega) (fun r4 g' m' h => nm_r e4 (hJ n p g' m' z op 0 M (cq_In_up h (by omega)) hM (Or.inl rfl))) _ _ _)
  · exact cq_l_mod (k := 4) (by decide) (by decide) (fun r2 _ => cq_l_mod (k := 8) (by decide) (by decide) (fun r3 _ => cq_x_submit hI (by omega) (fun r4 z' h e => nm_r e4 (hK z' (cq_In_up h (by omega)) e op)) _ _ _))
  · exact cq_l_mod (by omega) (by omega) (fun r2 _ => cq_x_addQueue hI (by omega) (fun r4 n' p' g' m' h => nm_r e4 (hJ n' p' g' m' z op 0 M (cq_In_up h (by omega)) hM (Or.inl rfl))) _ _ _)
end
theorem cq_l_45 {c l L : Nat} {post : Int32 → Prop} {xs : Nat → Int32} {kc ks : Nat} (hL : L ≤ 260) (hp : post 1) : ∀ d i f n p g m z op x5 M, L ≤ i + d → d < f → i ≤ 264 → cq_In (128 * i) c l n p g m z → M + 1 = cq_t z → (x5 = 0 ∨ cq_sv l n p g z = none) → wL_law_45 post L xs (nI c) kc ks f (nI M) x5 (nI i) (nI c) (nI l) (nI n) (lN (cq_t z)) (cq_P p) (cq_A (cq_cc p n)) (cq_A g) (cq_A m) (cq_A (cq_u p z)) (cq_A (cq_r z)) (cq_A (cq_h z)) (cq_G (cq_lv z) (cq_id z)) (cq_A (cq_cl z)) (cq_A (cq_cu z)) op := by
  intro d
  induction d with
  | zero =>
    intro i f n p g m z op x5 M hd hf hi hI hM hx5
    obtain ⟨f, rfl⟩ : ∃ k, f = k + 1 := ⟨f - 1, by omega⟩
    have hh := hI.1.1
    have hn := hh.2.2.2.2
    have hm := hI.1.2.2.2.1 0
    have hu : cq_u p z 0 ≤ 64 := cq_us_le _ _ _ _
    have hum := hI.2.2.1.1 0 (by omega)
    unfold wL_law_45 wpX_queueCount
    dsimp only
    refine cq_x_maxCapacity (j := 0) hn (by omega) ?_
    refine pk_lt n 1 (fun h => by omega) (fun _ => pk_le n 16 (fun _ => cq_x_used (j := 0) hn (by omega) (pk_le (cq_u p z 0) (m 0) (fun _ => ?_) (fun h => by omega))) (fun h => by omega))
    exact Exists.intro (n + 1) (cq_l_94 hI (by omega) hM hx5 (fun f => pk_le n n (fun _ => pk_lt i L (fun h => by omega) (fun _ => hp)) (fun h => by omega)) n 0 (n + 1) (by omega) (by omega))
  | succ d ih =>
    intro i f n p g m z op x5 M hd hf hi hI hM hx5
    obtain ⟨f, rfl⟩ : ∃ k, f = k + 1 := ⟨f - 1, by omega⟩
    have hh := hI.1.1
    have hn := hh.2.2.2.2
    have hT := hI.1.2.1
    have hm := hI.1.2.2.2.1 0
    have hu : cq_u p z 0 ≤ 64 := cq_us_le _ _ _ _
    have hum := hI.2.2.1.1 0 (by omega)
    unfold wL_law_45 wpX_queueCount
    dsimp only
    refine cq_x_maxCapacity (j := 0) hn (by omega) ?_
    refine pk_lt n 1 (fun h => by omega) (fun _ => pk_le n 16 (fun _ => cq_x_used (j := 0) hn (by omega) (pk_le (cq_u p z 0) (m 0) (fun _ => ?_) (fun h => by omega))) (fun h => by omega))
    refine Exists.intro (n + 1) (cq_l_94 hI (by omega) hM hx5 (fun f' => pk_le n n (fun _ => pk_lt i L (fun hiL => ?_) (fun _ => hp)) (fun h => by omega)) n 0 (n + 1) (by omega) (by omega))
    refine cq_l_cell (by omega) (by omega) (fun r1 => cq_l_mod (k := 10) (by decide) (by decide) (fun r2 _ => ?_))
    rw [show nI i + 1 = nI (i + 1) from nI_1 i, show nI i + 2 = nI (i + 2) from nI_add i 2, show nI i + 3 = nI (i + 3) from nI_add i 3]
    refine cq_l_cell (by omega) (by omega) (fun r3 => cq_l_cell (by omega) (by omega) (fun r4 => cq_l_cell (by omega) (by omega) (fun r5 => ?_)))
    refine Exists.intro (n + 1) (cq_l_449 hT hn (by omega) (fun k f' hk1 hk2 => pk_le n n (fun _ => ?_) (fun h => by omega)) n 0 (n + 1) 0 (by omega) (by omega) (by omega) (fun h => by obtain ⟨j, hj, _⟩ := h; omega))
    refine cq_l_mod (by omega) (by omega) (fun r6 _ => Exists.intro (n + 1) (cq_l_521 hn (fun j w f'' hj => cq_l_op hI (by omega) hM ?_ j hj w f'') n 0 (n + 1) 0 0 (by omega) (by omega) (by omega)))
    intro n' p' g' m' z' op' x5' M' hI' hM' hx5'
    exact ih (i + 4) f n' p' g' m' z' op' x5' M' (by omega) (by omega) (by omega) (cq_In_up hI' (by omega)) hM' hx5'
