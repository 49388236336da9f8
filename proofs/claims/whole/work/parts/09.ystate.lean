/-! the reference: grant, step, fill, the children's sum -/
theorem cq_dec {a : Nat} (h : 0 < a) : nI a - 1 = nI (a - 1) := by
  obtain ⟨k, rfl⟩ : ∃ k, a = k + 1 := ⟨a - 1, by omega⟩
  exact nI_pred k
theorem cq_w_dec {f : Nat → Nat} {x y : Nat} (h : x * 4 + y < 2 ^ 31) (h0 : 0 < f (x * 4 + y)) : upd (cq_A f) (nI x * 4 + nI y).toNatClampNeg (cq_A f (nI x * 4 + nI y).toNatClampNeg - 1) = cq_A (cq_up f (x * 4 + y) (f (x * 4 + y) - 1)) := by
  rw [cq_ix, cq_rA f h, nI_clamp h, cq_dec h0, cq_A_up]
theorem cq_w_inc {f : Nat → Nat} {x y : Nat} (h : x * 4 + y < 2 ^ 31) : upd (cq_A f) (nI x * 4 + nI y).toNatClampNeg (cq_A f (nI x * 4 + nI y).toNatClampNeg + 1) = cq_A (cq_up f (x * 4 + y) (f (x * 4 + y) + 1)) := by
  rw [cq_ix, cq_rA f h, nI_clamp h, nI_1, cq_A_up]
theorem cq_w_set {f : Nat → Nat} {i : Nat} (v : Nat) (h : i < 2 ^ 31) : upd (cq_A f) (nI i).toNatClampNeg (nI v) = cq_A (cq_up f i v) := by
  rw [nI_clamp h, cq_A_up]
theorem cq_nar1 : vp_nar .boolean 1 = 1 := by rfl
theorem cq_nar0 : vp_nar .boolean 0 = 0 := by rfl
theorem cq_w_t {lv : Nat → Bool} {i : Nat} (h : i < 2 ^ 31) : upd (cq_V lv) (nI i).toNatClampNeg (vp_nar .boolean 1) = cq_V (cq_ub lv i true) := by
  rw [nI_clamp h, cq_nar1]
  exact cq_V_up lv i true
theorem cq_w_f {lv : Nat → Bool} {i : Nat} (h : i < 2 ^ 31) : upd (cq_V lv) (nI i).toNatClampNeg (vp_nar .boolean 0) = cq_V (cq_ub lv i false) := by
  rw [nI_clamp h, cq_nar0]
  exact cq_V_up lv i false
section
variable {c l n : Nat} {p g m : Nat → Nat} {z : cq_Z} {post : Int32 → SY → Prop} {A B : Prop} {T' B' : Nat}
theorem cq_y_g111 (hn : n ≤ 16) {x y : Nat} (hx : x < n) (hy : y < 4) (hr : 0 < cq_r z (x * 4 + y)) {o : Option Nat} (ho : ∀ s, o = some s → s < 64) (h0 : o = none → post 0 (cq_Y c l n p g m z)) (h1 : ∀ s, o = some s → post 1 (cq_Y c l n p g m (cq_put z x y s))) : wY_grant_111 post (nI x) (nI y) (cq_oI o) (nI c) (nI l) (nI n) (nI (cq_t z)) (cq_P p) (cq_A g) (cq_A m) (cq_A (cq_r z)) (cq_A (cq_id z)) (cq_A (cq_cl z)) (cq_A (cq_cu z)) (cq_V (cq_lv z)) := by
  have ix : vp_in (nI x * 4 + nI y) 64 := by rw [cq_ix]; exact vp_in_nI (by omega) (by omega)
  cases o with
  | none => exact br_f (by decide) (h0 rfl)
  | some s =>
    have hs := ho s rfl
    have is : vp_in (nI s) 64 := vp_in_nI (by omega) (by omega)
    exact br_t (nI_pos' (by omega)) ⟨ix, ix, nm_r (cq_w_dec (by omega) hr) ⟨is, nm_r (cq_w_t (by omega)) ⟨is, nm_r (cq_w_set _ (by omega)) ⟨is, nm_r (cq_w_set _ (by omega)) ⟨is, nm_r (cq_w_set _ (by omega)) (nm_r (nI_1 _) (h1 s rfl))⟩⟩⟩⟩⟩
theorem cq_y_g79 {x1 x2 : Int32} : ∀ d i f, i + d = 64 → d + 1 < f → wY_grant_111 post x1 x2 (cq_oI (cq_fnd (cq_fr z) i d)) (nI c) (nI l) (nI n) (nI (cq_t z)) (cq_P p) (cq_A g) (cq_A m) (cq_A (cq_r z)) (cq_A (cq_id z)) (cq_A (cq_cl z)) (cq_A (cq_cu z)) (cq_V (cq_lv z)) → wY_grant_79 post x1 x2 (nI c) (nI l) (nI n) (nI (cq_t z)) (cq_P p) (cq_A g) (cq_A m) (cq_A (cq_r z)) (cq_A (cq_id z)) (cq_A (cq_cl z)) (cq_A (cq_cu z)) (cq_V (cq_lv z)) f (-1) (nI i) := by
  intro d
  induction d with
  | zero =>
    intro i f hi hf hp
    obtain ⟨f, rfl⟩ : ∃ k, f = k + 1 := ⟨f - 1, by omega⟩
    exact pk_le 64 i (fun _ => hp) (fun h => by omega)
  | succ d ih =>
    intro i f hi hf hp
    obtain ⟨f, rfl⟩ : ∃ k, f = k + 1 := ⟨f - 1, by omega⟩
    rw [cq_fnd_s] at hp
    refine pk_le 64 i (fun h => by omega) (fun _ => br_f (by decide) ⟨vp_in_nI (by omega) (by omega), cq_vb (by omega) (fun e => nm_r (nI_1 i) ?_) (fun e => nm_r (nI_1 i) (ih (i + 1) f (by omega) (by omega) ?_))⟩)
    · obtain ⟨f, rfl⟩ : ∃ k, f = k + 1 := ⟨f - 1, by omega⟩
      have e' : cq_fr z i = true := by unfold cq_fr; rw [e]; rfl
      rw [if_pos e'] at hp
      exact pk_le 64 (i + 1) (fun _ => hp) (fun _ => br_t (nI_pos' (by omega)) hp)
    · have e' : ¬ cq_fr z i = true := by unfold cq_fr; rw [e]; decide
      rw [if_neg e'] at hp
      exact hp
theorem cq_us4_s (l : Nat) (z : cq_Z) (x k : Nat) : cq_us4 l z x (k + 1) = (match cq_us4 l z x k with
    | none => if cq_ue l z x k then some k else none
    | some j => if cq_ue l z x k && cq_ubt z x k j then some k else some j) := rfl
theorem cq_us4_k {l : Nat} {x k : Nat} (h : cq_ue l z x k = false) : cq_us4 l z x (k + 1) = cq_us4 l z x k := cq_fo_k h
theorem cq_us4_4 {l : Nat} {x k y : Nat} (h : cq_us4 l z x k = some y) : y < k := (cq_fo_lt h).1
theorem cq_y_g7 (hn : n ≤ 16) (h64 : l ≤ 64) (hD : cq_D T' B' n p z) (hB : B' < 2 ^ 30) {x : Nat} (hx : x < n) (h0 : cq_us4 l z x 4 = none → post 0 (cq_Y c l n p g m z)) (h1 : ∀ y, cq_us4 l z x 4 = some y → ∃ k : Nat, wY_grant_79 post (nI x) (nI y) (nI c) (nI l) (nI n) (nI (cq_t z)) (cq_P p) (cq_A g) (cq_A m) (cq_A (cq_r z)) (cq_A (cq_id z)) (cq_A (cq_cl z)) (cq_A (cq_cu z)) (cq_V (cq_lv z)) k (-1) 0) : ∀ d k f w, k + d = 4 → d < f → (∀ y, cq_us4 l z x k = some y → w = nI (cq_h z (x * 4 + y))) → wY_grant_7 post (nI x) (nI c) (nI l) (nI n) (nI (cq_t z)) (cq_P p) (cq_A g) (cq_A m) (cq_A (cq_r z)) (cq_A (cq_id z)) (cq_A (cq_cl z)) (cq_A (cq_cu z)) (cq_V (cq_lv z)) f (cq_oI (cq_us4 l z x k)) w (nI k) := by
  intro d
  induction d with
  | zero =>
    intro k f w hk hf hw
    obtain ⟨f, rfl⟩ : ∃ k, f = k + 1 := ⟨f - 1, by omega⟩
    have e : k = 4 := by omega
    subst e
    refine pk_le 4 4 (fun _ => ?_) (fun h => by omega)
    cases e : cq_us4 l z x 4 with
    | none => exact br_f (by decide) (h0 e)
    | some y => exact br_t (nI_pos' (by have := cq_us4_4 e; omega)) (h1 y e)
  | succ d ih =>
    intro k f w hk hf hw
    obtain ⟨f, rfl⟩ : ∃ k, f = k + 1 := ⟨f - 1, by omega⟩
    have hh : cq_h z (x * 4 + k) ≤ 64 := cq_hs_le _ _ _ _
    have hr := hD.2.1 (x * 4 + k)
    have keep : cq_us4 l z x (k + 1) = cq_us4 l z x k → wY_grant_7 post (nI x) (nI c) (nI l) (nI n) (nI (cq_t z)) (cq_P p) (cq_A g) (cq_A m) (cq_A (cq_r z)) (cq_A (cq_id z)) (cq_A (cq_cl z)) (cq_A (cq_cu z)) (cq_V (cq_lv z)) f (cq_oI (cq_us4 l z x k)) w (nI (k + 1)) := by
      intro e
      have := ih (k + 1) f w (by omega) (by omega) (fun y ey => hw y (e ▸ ey))
      rw [e] at this
      exact this
    have take : cq_us4 l z x (k + 1) = some k → wY_grant_7 post (nI x) (nI c) (nI l) (nI n) (nI (cq_t z)) (cq_P p) (cq_A g) (cq_A m) (cq_A (cq_r z)) (cq_A (cq_id z)) (cq_A (cq_cl z)) (cq_A (cq_cu z)) (cq_V (cq_lv z)) f (nI k) (nI (cq_h z (x * 4 + k))) (nI (k + 1)) := by
      intro e
      have := ih (k + 1) f (nI (cq_h z (x * 4 + k))) (by omega) (by omega) (fun y ey => by
        rw [e] at ey
        cases ey
        rfl)
      rw [e] at this
      exact this
    have ue0 : ¬ (0 < cq_r z (x * 4 + k) ∧ cq_h z (x * 4 + k) < l) → cq_us4 l z x (k + 1) = cq_us4 l z x k := by
      intro h
      apply cq_us4_k
      unfold cq_ue
      cases e : (decide (0 < cq_r z (x * 4 + k)) && decide (cq_h z (x * 4 + k) < l)) with
      | false => rfl
      | true =>
        simp only [Bool.and_eq_true, decide_eq_true_eq] at e
        exact absurd e h
    refine pk_le 4 k (fun h => by omega) (fun _ => cq_y_userUsedOf hn hD hx (by omega) ⟨by rw [cq_ix]; exact vp_in_nI (by omega) (by omega), cq_if (d := cq_r z (x * 4 + k) = 0) (by rw [cq_ix]; exact cq_g0 (by omega) (by omega)) (fun e => nm_r (nI_1 k) (keep (ue0 (by omega)))) (fun e => pk_le l (cq_h z (x * 4 + k)) (fun e2 => nm_r (nI_1 k) (keep (ue0 (by omega)))) (fun e2 => ?_))⟩)
    have ue1 : cq_ue l z x k = true := by
      unfold cq_ue
      simp only [Bool.and_eq_true, decide_eq_true_eq]
      omega
    cases es : cq_us4 l z x k with
    | none =>
      refine br_t (by decide) (nm_r (nI_1 k) (take ?_))
      rw [cq_us4_s, es]
      dsimp only
      rw [if_pos ue1]
    | some y =>
      have hy := cq_us4_4 es
      have hw' := hw y es
      subst hw'
      have hh2 : cq_h z (x * 4 + y) ≤ 64 := cq_hs_le _ _ _ _
      rw [es] at keep
      refine br_f (nI_pos (by omega)) (pk_le (cq_h z (x * 4 + y)) (cq_h z (x * 4 + k)) (fun e3 => nm_r (nI_1 k) (keep ?_)) (fun e3 => nm_r (nI_1 k) (take ?_)))
      · rw [cq_us4_s, es]
        dsimp only
        rw [if_neg]
        unfold cq_ubt
        simp only [Bool.and_eq_true, decide_eq_true_eq]
        omega
      · rw [cq_us4_s, es]
        dsimp only
        rw [if_pos]
        unfold cq_ubt
        simp only [Bool.and_eq_true, decide_eq_true_eq]
        exact ⟨ue1, e3⟩
theorem cq_y_grant (hn : n ≤ 16) (h64 : l ≤ 64) (hD : cq_D T' B' n p z) (hB : B' < 2 ^ 30) {x : Nat} (hx : x < n) (hp : post (cq_bI (cq_gb l x z)) (cq_Y c l n p g m (cq_gr l x z))) : wpY_grant post (cq_Y c l n p g m z) (nI x) := by
  have e0 : cq_us4 l z x 0 = none := rfl
  have key := cq_y_g7 (c := c) (g := g) (m := m) (post := post) hn h64 hD hB hx (fun e => ?_) (fun y e => ?_) 4 0 5 0 (by omega) (by omega) (fun y e => by rw [e0] at e; exact absurd e (by simp))
  · exact Exists.intro 5 key
  · unfold cq_gb cq_gr at hp
    rw [e] at hp
    exact hp
  · obtain ⟨y1, y2, y3⟩ := cq_us4_lt e
    refine ⟨66, cq_y_g79 64 0 66 (by omega) (by omega) (cq_y_g111 hn hx y1 y2 (fun s es => (cq_sl_lt es).1) (fun es => ?_) (fun s es => ?_))⟩
    · unfold cq_gb cq_gr at hp
      rw [e] at hp
      dsimp only at hp
      have es' : cq_sl z = none := es
      rw [es'] at hp
      exact hp
    · unfold cq_gb cq_gr at hp
      rw [e] at hp
      dsimp only at hp
      have es' : cq_sl z = some s := es
      rw [es'] at hp
      exact hp
theorem cq_y_st (hJ : cq_J c l n p g m) (hD : cq_D T' B' n p z) (hB : B' < 2 ^ 30) : ∀ k q i f, q < n → n ≤ q + k → i ≤ q → k < f → cq_on l n p m z q = true → post (cq_bI (cq_gb l (cq_lf l n p g m z k q) z)) (cq_Y c l n p g m (cq_gr l (cq_lf l n p g m z k q) z)) → wY_step_4 post (nI c) (nI l) (nI n) (nI (cq_t z)) (cq_P p) (cq_A g) (cq_A m) (cq_A (cq_r z)) (cq_A (cq_id z)) (cq_A (cq_cl z)) (cq_A (cq_cu z)) (cq_V (cq_lv z)) f (nI q) (nI i) := by
  have hJ' := hJ
  obtain ⟨⟨h1, h2, h3, h4, hn⟩, hT, hg, hm, h0⟩ := hJ
  intro k
  induction k with
  | zero =>
    intro q i f a b
    omega
  | succ k ih =>
    intro q i f hq hk hi hf ho hp
    obtain ⟨f, rfl⟩ : ∃ k, f = k + 1 := ⟨f - 1, by omega⟩
    by_cases hc : cq_cc p n q = 0
    · have e : cq_lf l n p g m z (k + 1) q = q := by
        unfold cq_lf
        rw [if_pos hc]
      rw [e] at hp
      refine pk_le 17 i (fun h => by omega) (fun _ => cq_y_hasChildren hT hn h4 (by omega) ?_)
      rw [cq_hc_f hc]
      refine br_t rfl (cq_y_grant hn h3 hD hB hq ?_)
      exact And.intro (cq_nb _) hp
    · obtain ⟨b, hb⟩ := cq_lc_ex (g := g) hT hc ho
      obtain ⟨b1, b2, b3, b4⟩ := cq_lc_some hb
      have hlt := hT b (by omega) b1
      have e : cq_lf l n p g m z (k + 1) q = cq_lf l n p g m z k b := by
        rw [cq_lf, if_neg hc, hb]
      rw [e] at hp
      refine pk_le 17 i (fun h => by omega) (fun _ => cq_y_hasChildren hT hn h4 (by omega) ?_)
      rw [cq_hc_t hc]
      refine br_f (by decide) (cq_y_lightestOpenChild hJ' hD hB (by omega) ?_)
      rw [hb]
      exact br_t (nI_pos' (by omega)) (nm_r (nI_1 i) (ih b (i + 1) f b1 (by omega) (by omega) (by omega) b4 hp))
theorem cq_y_step (hJ : cq_J c l n p g m) (hD : cq_D T' B' n p z) (hB : B' < 2 ^ 30) (ho : cq_on l n p m z 0 = true) (hp : post 1 (cq_Y c l n p g m (cq_nx l n p g m z))) : wpY_step post (cq_Y c l n p g m z) := by
  have e := (cq_nx_ok hJ hD ho).1
  refine Exists.intro 17 (cq_y_st hJ hD hB 16 0 0 17 (by have := hJ.1; omega) (by have := hJ.1; omega) (by omega) (by omega) ho ?_)
  rw [e]
  exact hp
theorem cq_y_fl (hJ : cq_J c l n p g m) (hB : B' < 2 ^ 30) : ∀ d i f z T', i + d = c → i ≤ cq_u p z 0 → cq_D T' B' n p z → d < f → post (nI (i + cq_fn l n p g m d z)) (cq_Y c l n p g m (cq_fz l n p g m d z)) → wY_fill_4 post f (nI i) (nI i) (nI c) (nI l) (nI n) (nI (cq_t z)) (cq_P p) (cq_A g) (cq_A m) (cq_A (cq_r z)) (cq_A (cq_id z)) (cq_A (cq_cl z)) (cq_A (cq_cu z)) (cq_V (cq_lv z)) := by
  have hJ' := hJ
  obtain ⟨⟨h1, h2, h3, h4, hn⟩, hT, hg, hm, h0⟩ := hJ
  intro d
  induction d with
  | zero =>
    intro i f z T' hi hu hD hf hp
    obtain ⟨f, rfl⟩ : ∃ k, f = k + 1 := ⟨f - 1, by omega⟩
    refine pk_le 65 i (fun h => by omega) (fun _ => cq_y_isOpen (q := 0) hJ' hD hB (by decide) ?_)
    cases ho : cq_on l n p m z 0 with
    | false => exact br_t rfl hp
    | true =>
      have := cq_on_0 hT ho
      omega
  | succ d ih =>
    intro i f z T' hi hu hD hf hp
    obtain ⟨f, rfl⟩ : ∃ k, f = k + 1 := ⟨f - 1, by omega⟩
    refine pk_le 65 i (fun h => by omega) (fun _ => cq_y_isOpen (q := 0) hJ' hD hB (by decide) ?_)
    unfold cq_fz cq_fn at hp
    cases ho : cq_on l n p m z 0 with
    | false =>
      rw [ho] at hp
      exact br_t rfl hp
    | true =>
      rw [ho] at hp
      have hx := (cq_nx_ok hJ' hD ho).2
      refine br_f (by decide) (cq_y_step hJ' hD hB ho ?_)
      refine br_f (by decide) (nm_r (nI_1 i) (nm_r (nI_1 i) (ih (i + 1) f _ (T' + 1) (by omega) (by omega) (cq_nx_D hT h4 hn hD ho) (by omega) ?_)))
      rw [show i + 1 + cq_fn l n p g m d (cq_nx l n p g m z) = i + (cq_fn l n p g m d (cq_nx l n p g m z) + 1) by omega]
      exact hp
theorem cq_y_fill (hJ : cq_J c l n p g m) (hB : B' < 2 ^ 30) (hD : cq_D T' B' n p z) (hp : post (nI (cq_fn l n p g m c z)) (cq_Y c l n p g m (cq_fz l n p g m c z))) : wpY_fill post (cq_Y c l n p g m z) :=
  Exists.intro (c + 1) (cq_y_fl hJ hB c 0 (c + 1) z T' (by omega) (by omega) hD (by omega) (by rw [Nat.zero_add]; exact hp))
theorem cq_ck_s (p g : Nat → Nat) (q s j : Nat) : cq_ck p g q s (j + 1) = cq_ck p g q s j + (if !(j == 0) && (p j == q) && !(j == s) then g j else 0) := rfl
theorem cq_y_ck (hJ : cq_J c l n p g m) {q s : Nat} {k : Int32} {post : Int32 → Prop} (hq : q < 2 ^ 31) (hs : ∀ j, j < 16 → (nI j = k ↔ j = s)) (hp : post (nI (cq_ck p g q s n))) : ∀ d j f, j + d = n → 1 ≤ j → d < f → wY_childSum_5 post (nI q) k (nI c) (nI l) (nI n) (nI (cq_t z)) (cq_P p) (cq_A g) (cq_A m) (cq_A (cq_r z)) (cq_A (cq_id z)) (cq_A (cq_cl z)) (cq_A (cq_cu z)) (cq_V (cq_lv z)) f (nI (cq_ck p g q s j)) (nI j) := by
  obtain ⟨⟨h1, h2, h3, h4, hn⟩, hT, hg, hm, h0⟩ := hJ
  intro d
  induction d with
  | zero =>
    intro j f hj h1 hf
    obtain ⟨f, rfl⟩ : ∃ k, f = k + 1 := ⟨f - 1, by omega⟩
    have e : j = n := by omega
    subst e
    exact pk_le j j (fun _ => hp) (fun h => by omega)
  | succ d ih =>
    intro j f hj h1 hf
    obtain ⟨f, rfl⟩ : ∃ k, f = k + 1 := ⟨f - 1, by omega⟩
    have ih' := ih (j + 1) f (by omega) (by omega) (by omega)
    rw [cq_ck_s] at ih'
    refine pk_le n j (fun h => by omega) (fun _ => ⟨vp_in_nI (by omega) (by omega), cq_if (cq_pe hT hn (by omega) (by omega) hq) (fun e => cq_if (hs j (by omega)) (fun e2 => nm_r (nI_1 j) ?_) (fun e2 => ⟨vp_in_nI (by omega) (by omega), nm_r (by rw [cq_rA g (by omega), nI_add]) (nm_r (nI_1 j) ?_)⟩)) (fun e => nm_r (nI_1 j) ?_)⟩)
    · rw [if_neg (by simp [e2])] at ih'
      exact ih'
    · rw [if_pos (by simp [e, e2]; omega)] at ih'
      exact ih'
    · rw [if_neg (by simp [e])] at ih'
      exact ih'
theorem cq_y_childSum (hJ : cq_J c l n p g m) {q s : Nat} {k : Int32} {post : Int32 → Prop} (hq : q < 2 ^ 31) (hs : ∀ j, j < 16 → (nI j = k ↔ j = s)) (hp : post (nI (cq_ck p g q s n))) : wpY_childSum post (cq_Y c l n p g m z) (nI q) k := by
  have h4 := hJ.1.2.2.2.1
  have e : cq_ck p g q s 1 = 0 := rfl
  have := cq_y_ck (z := z) hJ hq hs hp (n - 1) 1 (n + 1) (by omega) (by omega) (by omega)
  rw [e] at this
  exact Exists.intro (n + 1) this
end
