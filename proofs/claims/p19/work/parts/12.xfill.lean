/-! the class: the lightest leaf, grant, fill -/
section
variable {c l n : Nat} {p g m : Nat → Nat} {z : cq_Z} {op : Nat → Int32} {A B : Prop} {T' B' : Nat}
theorem cq_lc_s (l n : Nat) (p g m : Nat → Nat) (z : cq_Z) (q i : Nat) : cq_lc l n p g m z q (i + 1) = (match cq_lc l n p g m z q i with
    | none => if cq_oc l n p m z q i then some i else none
    | some j => if cq_oc l n p m z q i && cq_lt g (cq_u p z) i j then some i else some j) := rfl
theorem cq_x_lc (hJ : cq_J c l n p g m) (hO : ∀ j, j < n → op j = cq_bI (cq_on l n p m z j)) {q : Nat} (hq : q < 2 ^ 31) {post : Int32 → Prop} (hp : post (cq_oI (cq_lc l n p g m z q n))) : ∀ d i f, i + d = n → d < f → wX_lightestOpenChild_4 post (nI q) (nI c) (nI l) (nI n) (lN (cq_t z)) (cq_P p) (cq_A (cq_cc p n)) (cq_A g) (cq_A m) (cq_A (cq_u p z)) (cq_A (cq_r z)) (cq_A (cq_h z)) (cq_G (cq_lv z) (cq_id z)) (cq_A (cq_cl z)) (cq_A (cq_cu z)) op f (cq_oI (cq_lc l n p g m z q i)) (nI i) := by
  have hJ' := hJ
  obtain ⟨⟨h1, h2, h3, h4, hn⟩, hT, hg, hm, h0⟩ := hJ
  intro d
  induction d with
  | zero =>
    intro i f hi hf
    obtain ⟨f, rfl⟩ : ∃ k, f = k + 1 := ⟨f - 1, by omega⟩
    have e : i = n := by omega
    subst e
    exact pk_le i i (fun _ => hp) (fun h => by omega)
  | succ d ih =>
    intro i f hi hf
    obtain ⟨f, rfl⟩ : ∃ k, f = k + 1 := ⟨f - 1, by omega⟩
    have ih' := ih (i + 1) f (by omega) (by omega)
    have ii : vp_in (nI i) 16 := vp_in_nI (by omega) (by omega)
    have keep : cq_oc l n p m z q i = false → wX_lightestOpenChild_4 post (nI q) (nI c) (nI l) (nI n) (lN (cq_t z)) (cq_P p) (cq_A (cq_cc p n)) (cq_A g) (cq_A m) (cq_A (cq_u p z)) (cq_A (cq_r z)) (cq_A (cq_h z)) (cq_G (cq_lv z) (cq_id z)) (cq_A (cq_cl z)) (cq_A (cq_cu z)) op f (cq_oI (cq_lc l n p g m z q i)) (nI (i + 1)) := by
      intro e
      have e' : cq_lc l n p g m z q (i + 1) = cq_lc l n p g m z q i := cq_fo_k e
      rw [e'] at ih'
      exact ih'
    refine pk_le n i (fun h => by omega) (fun _ => ⟨ii, ?_⟩)
    by_cases e0 : i = 0
    · subst e0
      exact br_f (cq_pe0 hq) (nm_r (nI_1 0) (keep (by unfold cq_oc; simp)))
    · refine cq_if (cq_pe hT hn e0 (by omega) hq) (fun e => ⟨ii, ?_⟩) (fun e => nm_r (nI_1 i) (keep (cq_oc_no e0 e)))
      rw [nI_clamp (by omega), hO i (by omega)]
      refine cq_b0 (fun e2 => nm_r (nI_1 i) (keep (by rw [cq_oc_op e0 e]; exact e2))) (fun e2 => ?_)
      have oc : cq_oc l n p m z q i = true := by rw [cq_oc_op e0 e]; exact e2
      cases es : cq_lc l n p g m z q i with
      | none =>
        rw [cq_lc_s, es] at ih'
        dsimp only at ih'
        rw [if_pos oc] at ih'
        exact br_t rfl (nm_r (nI_1 i) ih')
      | some b =>
        obtain ⟨b1, b2, b3, b4⟩ := cq_lc_some es
        rw [cq_lc_s, es] at ih'
        dsimp only at ih'
        rw [oc, Bool.true_and] at ih'
        refine br_f (cq_m1 (by omega)) (cq_x_isLighter hJ' (by omega) (by omega) (cq_b0 (fun e3 => nm_r (nI_1 i) ?_) (fun e3 => nm_r (nI_1 i) ?_)))
        · rw [e3] at ih'
          exact ih'
        · rw [e3] at ih'
          exact ih'
theorem cq_x_lightestOpenChild (hJ : cq_J c l n p g m) (hO : ∀ j, j < n → op j = cq_bI (cq_on l n p m z j)) {q : Nat} (hq : q < 2 ^ 31) {post : Int32 → Prop} (hp : post (cq_oI (cq_lc l n p g m z q n))) : wpX_lightestOpenChild post (cq_X c l n p g m z op) (nI q) :=
  Exists.intro (n + 1) (cq_x_lc hJ hO hq hp n 0 (n + 1) (by omega) (by omega))
theorem cq_lf_s (l n : Nat) (p g m : Nat → Nat) (z : cq_Z) (f q : Nat) : cq_lf l n p g m z (f + 1) q = (if cq_cc p n q = 0 then q else match cq_lc l n p g m z q n with
    | none => q
    | some b => cq_lf l n p g m z f b) := rfl
theorem cq_x_lf (hJ : cq_J c l n p g m) (hO : ∀ j, j < n → op j = cq_bI (cq_on l n p m z j)) {post : Int32 → Prop} : ∀ k q i f, i + k = 16 → q < n → k < f → post (nI (cq_lf l n p g m z k q)) → wX_lightestOpenLeaf_4 post (nI c) (nI l) (nI n) (lN (cq_t z)) (cq_P p) (cq_A (cq_cc p n)) (cq_A g) (cq_A m) (cq_A (cq_u p z)) (cq_A (cq_r z)) (cq_A (cq_h z)) (cq_G (cq_lv z) (cq_id z)) (cq_A (cq_cl z)) (cq_A (cq_cu z)) op f (nI q) (nI i) := by
  have hn := hJ.1.2.2.2.2
  intro k
  induction k with
  | zero =>
    intro q i f hi hq hf hp
    obtain ⟨f, rfl⟩ : ∃ k, f = k + 1 := ⟨f - 1, by omega⟩
    exact pk_le 16 i (fun _ => hp) (fun h => by omega)
  | succ k ih =>
    intro q i f hi hq hf hp
    obtain ⟨f, rfl⟩ : ∃ k, f = k + 1 := ⟨f - 1, by omega⟩
    have hc := cq_cc_le p n q
    rw [cq_lf_s] at hp
    refine pk_le 16 i (fun h => by omega) (fun _ => ⟨vp_in_nI (by omega) (by omega), cq_if (cq_g0 (f := cq_cc p n) (by omega) (by omega)) (fun e => ?_) (fun e => cq_x_lightestOpenChild hJ hO (by omega) ?_)⟩)
    · rw [if_pos e] at hp
      exact hp
    · rw [if_neg e] at hp
      cases es : cq_lc l n p g m z q n with
      | none =>
        rw [es] at hp
        exact br_t rfl hp
      | some b =>
        rw [es] at hp
        obtain ⟨b1, b2, b3, b4⟩ := cq_lc_some es
        exact br_f (cq_m1 (by omega)) (nm_r (nI_1 i) (ih b (i + 1) f (by omega) b1 (by omega) hp))
theorem cq_x_lightestOpenLeaf (hJ : cq_J c l n p g m) (hO : ∀ j, j < n → op j = cq_bI (cq_on l n p m z j)) {post : Int32 → Prop} (hp : post (nI (cq_lf l n p g m z 16 0))) : wpX_lightestOpenLeaf post (cq_X c l n p g m z op) :=
  Exists.intro 17 (cq_x_lf hJ hO 16 0 0 17 (by omega) (by have := hJ.1; omega) (by omega) hp)
theorem cq_x_ls (hn : n ≤ 16) (h64 : l ≤ 64) (hD : cq_D T' B' n p z) (hB : B' < 2 ^ 30) {x : Nat} (hx : x < n) {post : Int32 → Prop} (hp : post (cq_oI (cq_us4 l z x 4))) : ∀ d k f, k + d = 4 → d < f → wX_leastServedUser_4 post (nI x) (nI c) (nI l) (nI n) (lN (cq_t z)) (cq_P p) (cq_A (cq_cc p n)) (cq_A g) (cq_A m) (cq_A (cq_u p z)) (cq_A (cq_r z)) (cq_A (cq_h z)) (cq_G (cq_lv z) (cq_id z)) (cq_A (cq_cl z)) (cq_A (cq_cu z)) op f (cq_oI (cq_us4 l z x k)) (nI k) := by
  intro d
  induction d with
  | zero =>
    intro k f hk hf
    obtain ⟨f, rfl⟩ : ∃ k, f = k + 1 := ⟨f - 1, by omega⟩
    have e : k = 4 := by omega
    subst e
    exact pk_le 4 4 (fun _ => hp) (fun h => by omega)
  | succ d ih =>
    intro k f hk hf
    obtain ⟨f, rfl⟩ : ∃ k, f = k + 1 := ⟨f - 1, by omega⟩
    have ih' := ih (k + 1) f (by omega) (by omega)
    have hh : cq_h z (x * 4 + k) ≤ 64 := cq_hs_le _ _ _ _
    have hr := hD.2.1 (x * 4 + k)
    have i4 : vp_in (nI (x * 4 + k)) 64 := vp_in_nI (by omega) (by omega)
    have keep : ¬ (0 < cq_r z (x * 4 + k) ∧ cq_h z (x * 4 + k) < l) → wX_leastServedUser_4 post (nI x) (nI c) (nI l) (nI n) (lN (cq_t z)) (cq_P p) (cq_A (cq_cc p n)) (cq_A g) (cq_A m) (cq_A (cq_u p z)) (cq_A (cq_r z)) (cq_A (cq_h z)) (cq_G (cq_lv z) (cq_id z)) (cq_A (cq_cl z)) (cq_A (cq_cu z)) op f (cq_oI (cq_us4 l z x k)) (nI (k + 1)) := by
      intro h
      have e' : cq_us4 l z x (k + 1) = cq_us4 l z x k := by
        apply cq_us4_k
        unfold cq_ue
        cases e : (decide (0 < cq_r z (x * 4 + k)) && decide (cq_h z (x * 4 + k) < l)) with
        | false => rfl
        | true =>
          simp only [Bool.and_eq_true, decide_eq_true_eq] at e
          exact absurd e h
      rw [e'] at ih'
      exact ih'
    refine pk_le 4 k (fun h => by omega) (fun _ => nm_r (cq_ix x k) ⟨i4, cq_if (cq_g0 (f := cq_r z) (by omega) (by omega)) (fun e => br_t rfl (nm_r (nI_1 k) (keep (by omega)))) (fun e => ⟨i4, cq_if (d := l ≤ cq_h z (x * 4 + k)) (by rw [cq_rA (cq_h z) (by omega)]; exact nI_leI (by omega) (by omega)) (fun e2 => br_t rfl (nm_r (nI_1 k) (keep (by omega)))) (fun e2 => br_f (by decide) ?_)⟩)⟩)
    have ue1 : cq_ue l z x k = true := by
      unfold cq_ue
      simp only [Bool.and_eq_true, decide_eq_true_eq]
      omega
    rw [cq_us4_s] at ih'
    cases es : cq_us4 l z x k with
    | none =>
      rw [es] at ih'
      dsimp only at ih'
      rw [if_pos ue1] at ih'
      exact br_t rfl (nm_r (nI_1 k) ih')
    | some y =>
      have hy := cq_us4_4 es
      have hh2 : cq_h z (x * 4 + y) ≤ 64 := cq_hs_le _ _ _ _
      rw [es] at ih'
      dsimp only at ih'
      rw [ue1, Bool.true_and] at ih'
      refine br_f (cq_m1 (by omega)) ⟨i4, by show vp_in (nI x * 4 + nI y) 64; rw [cq_ix]; exact vp_in_nI (by omega) (by omega), cq_if (d := cq_h z (x * 4 + y) ≤ cq_h z (x * 4 + k)) (by show cq_A (cq_h z) (nI x * 4 + nI y).toNatClampNeg ≤ _ ↔ _; rw [cq_ix, cq_rA (cq_h z) (by omega), cq_rA (cq_h z) (by omega)]; exact nI_leI (by omega) (by omega)) (fun e3 => nm_r (nI_1 k) ?_) (fun e3 => nm_r (nI_1 k) ?_)⟩
      · rw [show cq_ubt z x k y = false by unfold cq_ubt; simpa using e3] at ih'
        exact ih'
      · rw [show cq_ubt z x k y = true by unfold cq_ubt; simpa using e3] at ih'
        exact ih'
theorem cq_x_leastServedUser (hn : n ≤ 16) (h64 : l ≤ 64) (hD : cq_D T' B' n p z) (hB : B' < 2 ^ 30) {x : Nat} (hx : x < n) {post : Int32 → Prop} (hp : post (cq_oI (cq_us4 l z x 4))) : wpX_leastServedUser post (cq_X c l n p g m z op) (nI x) :=
  Exists.intro 5 (cq_x_ls hn h64 hD hB hx hp 4 0 5 (by omega) (by omega))
theorem cq_x_grant (hT : cq_T p n) (hn : n ≤ 16) (h64 : l ≤ 64) (hD : cq_D T' B' n p z) (hB : B' < 2 ^ 30) (hT' : T' < 2 ^ 31) {x : Nat} (hx : x < n) {post : St2 → Prop} (hp : post (cq_X c l n p g m (cq_gr l x z) op)) : wpX_grant post (cq_X c l n p g m z op) (nI x) := by
  unfold wpX_grant
  refine cq_x_leastServedUser hn h64 hD hB hx (cq_x_slotHolding (F := cq_fr z) (fun i _ => cq_F0 hD hT' i) ?_)
  unfold cq_gr at hp
  cases ey : cq_us4 l z x 4 with
  | none =>
    rw [ey] at hp
    exact br_t rfl hp
  | some y =>
    obtain ⟨y1, y2, y3⟩ := cq_us4_lt ey
    rw [ey] at hp
    dsimp only at hp
    refine br_f (cq_m1 (by omega)) ?_
    cases es : cq_fnd (cq_fr z) 0 64 with
    | none =>
      have es' : cq_sl z = none := es
      rw [es'] at hp
      exact br_t rfl hp
    | some s =>
      have es' : cq_sl z = some s := es
      obtain ⟨s1, s2⟩ := cq_sl_lt es'
      rw [es'] at hp
      dsimp only at hp
      have ix : vp_in (nI x * 4 + nI y) 64 := by rw [cq_ix]; exact vp_in_nI (by omega) (by omega)
      have is : vp_in (nI s) 64 := vp_in_nI (by omega) (by omega)
      have hh := cq_h_put x y s1 s2
      have hu := cq_u_put p x y s1 s2
      have eh : cq_up (cq_h z) (x * 4 + y) (cq_h z (x * 4 + y) + 1) = cq_h (cq_put z x y s) := by
        funext j
        have := hh j
        by_cases w : j = x * 4 + y
        · subst w
          rw [if_pos (by simp)] at this
          rw [cq_up_s, this]
        · rw [if_neg (by simp; omega)] at this
          rw [cq_up_n w, this]
          rfl
      have eu : (fun q => if cq_un p x q then cq_A (cq_u p z) q + 1 else cq_A (cq_u p z) q) = cq_A (cq_u p (cq_put z x y s)) := by
        funext q
        have := hu q
        unfold cq_A
        by_cases w : cq_un p x q = true
        · rw [if_pos w] at this ⊢
          rw [this, nI_1]
        · rw [if_neg w] at this ⊢
          rw [this]
          rfl
      refine br_f (cq_m1 (by omega)) ⟨ix, ix, nm_r (cq_w_dec (by omega) y2) ⟨ix, ix, nm_r (cq_w_inc (by omega)) ⟨is, nm_r (e' := cq_G (cq_ub (cq_lv z) s true) (cq_up (cq_id z) s (cq_t z))) (by show vp_updL _ (nI s).toNatClampNeg _ = _; rw [nI_clamp (by omega)]; exact cq_G_up _ _ _ _) ⟨is, nm_r (cq_w_set _ (by omega)) ⟨is, nm_r (cq_w_set _ (by omega)) (nm_r (lN_1 _) (cq_x_addToPath hT hn hx ?_))⟩⟩⟩⟩⟩
      rw [eh, eu]
      exact hp
theorem cq_x_fl (hJ : cq_J c l n p g m) (hB : B' < 2 ^ 30) {post : Int32 → St2 → Prop} : ∀ d i f z op T', i + d = c → cq_D T' B' n p z → T' + d < 2 ^ 31 → d < f → (∀ op', post (nI (i + cq_fn l n p g m d z)) (cq_X c l n p g m (cq_fz l n p g m d z) op')) → wX_fill_4 post f (nI i) (nI i) (nI c) (nI l) (nI n) (lN (cq_t z)) (cq_P p) (cq_A (cq_cc p n)) (cq_A g) (cq_A m) (cq_A (cq_u p z)) (cq_A (cq_r z)) (cq_A (cq_h z)) (cq_G (cq_lv z) (cq_id z)) (cq_A (cq_cl z)) (cq_A (cq_cu z)) op := by
  have hJ' := hJ
  obtain ⟨⟨h1, h2, h3, h4, hn⟩, hT, hg, hm, h0⟩ := hJ
  intro d
  induction d with
  | zero =>
    intro i f z op T' hi hD hT' hf hp
    obtain ⟨f, rfl⟩ : ∃ k, f = k + 1 := ⟨f - 1, by omega⟩
    exact pk_le c i (fun _ => hp op) (fun h => by omega)
  | succ d ih =>
    intro i f z op T' hi hD hT' hf hp
    obtain ⟨f, rfl⟩ : ∃ k, f = k + 1 := ⟨f - 1, by omega⟩
    refine pk_le c i (fun h => by omega) (fun _ => cq_x_mark hJ' hD hB (fun op' hO => ?_))
    show ((op' 0 = 0 → _) ∧ (¬ op' 0 = 0 → _))
    rw [hO 0 (by omega)]
    unfold cq_fz cq_fn at hp
    cases ho : cq_on l n p m z 0 with
    | false =>
      rw [ho] at hp
      exact br_t rfl (hp op')
    | true =>
      rw [ho] at hp
      have hx := cq_lf_ok (g := g) hT 16 0 (by omega) (by omega) ho
      refine br_f (by decide) (cq_x_lightestOpenLeaf hJ' hO (cq_x_grant hT hn h3 hD hB (by omega) hx.1 (nm_r (nI_1 i) (nm_r (nI_1 i) (ih (i + 1) f (cq_nx l n p g m z) op' (T' + 1) (by omega) (cq_nx_D hT h4 hn hD ho) (by omega) (by omega) (fun op'' => ?_))))))
      rw [show i + 1 + cq_fn l n p g m d (cq_nx l n p g m z) = i + (cq_fn l n p g m d (cq_nx l n p g m z) + 1) by omega]
      exact hp op''
theorem cq_x_fill (hJ : cq_J c l n p g m) (hB : B' < 2 ^ 30) (hD : cq_D T' B' n p z) (hT' : T' + c < 2 ^ 31) {post : Int32 → St2 → Prop} (hp : ∀ op', post (nI (cq_fn l n p g m c z)) (cq_X c l n p g m (cq_fz l n p g m c z) op')) : wpX_fill post (cq_X c l n p g m z op) :=
  Exists.intro (c + 1) (cq_x_fl hJ hB c 0 (c + 1) z op T' (by omega) hD hT' (by omega) (by rw [Nat.zero_add]; exact hp))
end
