/-! the reference: taking back -/
section
variable {c l n : Nat} {p g m : Nat → Nat} {z : cq_Z} {A B : Prop} {T' B' : Nat} {post : Int32 → SY → Prop} {J : Int32 → Int32 → Int32 → Int32 → Int32 → Int32 → (Nat → Int32) → (Nat → Int32) → (Nat → Int32) → (Nat → Int32) → (Nat → Int32) → (Nat → Int32) → (Nat → Int32) → (Nat → Int32) → Prop} {x1 x2 : Int32}
theorem cq_y_p20 (hJ : cq_J c l n p g m) (hD : cq_D T' B' n p z) (hB : B' < 2 ^ 30) : ∀ d i f, i + d = n → d + 1 < f → wY_preempt_76 post J x1 x2 (cq_oI (cq_fnd (cq_st l n p g z) i d)) (nI c) (nI l) (nI n) (nI (cq_t z)) (cq_P p) (cq_A g) (cq_A m) (cq_A (cq_r z)) (cq_A (cq_id z)) (cq_A (cq_cl z)) (cq_A (cq_cu z)) (cq_V (cq_lv z)) → wY_preempt_20 post J x1 x2 (nI c) (nI l) (nI n) (nI (cq_t z)) (cq_P p) (cq_A g) (cq_A m) (cq_A (cq_r z)) (cq_A (cq_id z)) (cq_A (cq_cl z)) (cq_A (cq_cu z)) (cq_V (cq_lv z)) f (-1) (nI i) := by
  obtain ⟨⟨h1, h2, h3, h4, hn⟩, hT, hg, hm, h0⟩ := hJ
  intro d
  induction d with
  | zero =>
    intro i f hi hf hp
    obtain ⟨f, rfl⟩ : ∃ k, f = k + 1 := ⟨f - 1, by omega⟩
    exact pk_le n i (fun _ => hp) (fun h => by omega)
  | succ d ih =>
    intro i f hi hf hp
    obtain ⟨f, rfl⟩ : ∃ k, f = k + 1 := ⟨f - 1, by omega⟩
    have ii : vp_in (nI i) 16 := vp_in_nI (by omega) (by omega)
    have hu : cq_u p z i ≤ 64 := cq_us_le _ _ _ _
    have hgi := hg i
    have he := cq_e_le l z i
    rw [cq_fnd_s] at hp
    have nxt : ¬ (cq_cc p n i = 0 ∧ cq_u p z i < g i ∧ 0 < cq_e l z i) → wY_preempt_20 post J x1 x2 (nI c) (nI l) (nI n) (nI (cq_t z)) (cq_P p) (cq_A g) (cq_A m) (cq_A (cq_r z)) (cq_A (cq_id z)) (cq_A (cq_cl z)) (cq_A (cq_cu z)) (cq_V (cq_lv z)) f (-1) (nI (i + 1)) := by
      intro h
      rw [if_neg (cq_st_no h)] at hp
      exact ih (i + 1) f (by omega) (by omega) hp
    refine pk_le n i (fun h => by omega) (fun _ => br_f (by decide) (cq_y_hasChildren hT hn h4 (by omega) (cq_b0 (fun e => cq_y_usedOf hT hn hD (by omega) ⟨ii, cq_if (d := g i ≤ cq_u p z i) (by rw [cq_rA g (by omega)]; exact nI_leI (by omega) (by omega)) (fun e2 => nm_r (nI_1 i) (nxt (by omega))) (fun e2 => cq_y_eOf hn h3 hD hB (by omega) ?_)⟩) (fun e => nm_r (nI_1 i) (nxt ?_)))))
    · have e' : cq_cc p n i = 0 := by unfold cq_hc at e; simpa using e
      by_cases e3 : 0 < cq_e l z i
      · refine br_f (nI_nle e3 (by omega)) (nm_r (nI_1 i) ?_)
        rw [if_pos (cq_st_yes e' (by omega) e3)] at hp
        obtain ⟨f, rfl⟩ : ∃ k, f = k + 1 := ⟨f - 1, by omega⟩
        exact pk_le n (i + 1) (fun _ => hp) (fun _ => br_t (nI_pos' (by omega)) hp)
      · refine br_t ?_ (nm_r (nI_1 i) (nxt (by omega)))
        rw [show cq_e l z i = 0 by omega]
        decide
    · have e' : cq_cc p n i ≠ 0 := by unfold cq_hc at e; simpa using e
      omega
theorem cq_y_p97 (hJ : cq_J c l n p g m) (hD : cq_D T' B' n p z) {x3 : Int32} : ∀ k x i f, x < k → x < n → x + i ≤ 16 → k + 1 < f → wY_preempt_156 post J x1 x2 x3 (cq_oI (cq_fa p m z k x)) (nI c) (nI l) (nI n) (nI (cq_t z)) (cq_P p) (cq_A g) (cq_A m) (cq_A (cq_r z)) (cq_A (cq_id z)) (cq_A (cq_cl z)) (cq_A (cq_cu z)) (cq_V (cq_lv z)) → wY_preempt_97 post J x1 x2 x3 (nI c) (nI l) (nI n) (nI (cq_t z)) (cq_P p) (cq_A g) (cq_A m) (cq_A (cq_r z)) (cq_A (cq_id z)) (cq_A (cq_cl z)) (cq_A (cq_cu z)) (cq_V (cq_lv z)) f (-1) (nI x) (nI i) := by
  obtain ⟨⟨h1, h2, h3, h4, hn⟩, hT, hg, hm, h0⟩ := hJ
  intro k
  induction k with
  | zero =>
    intro x i f h
    omega
  | succ k ih =>
    intro x i f hk hx hi hf hp
    obtain ⟨f, rfl⟩ : ∃ k, f = k + 1 := ⟨f - 1, by omega⟩
    have ix : vp_in (nI x) 16 := vp_in_nI (by omega) (by omega)
    have hu : cq_u p z x ≤ 64 := cq_us_le _ _ _ _
    have hmx := hm x
    rw [cq_fa_s] at hp
    refine pk_le 17 i (fun h => by omega) (fun _ => br_f (by decide) (br_f (nI_pos (by omega)) (pk_le 16 x (fun h => by omega) (fun _ => cq_y_usedOf hT hn hD (by omega) ⟨ix, cq_if (d := cq_u p z x = m x) (by rw [cq_rA m (by omega)]; exact nI_eq (by omega) (by omega)) (fun e => ⟨ix, nm_e (nm_r (nI_1 i) ?_)⟩) (fun e => ⟨ix, ?_⟩)⟩))))
    · rw [if_pos e] at hp
      obtain ⟨f, rfl⟩ : ∃ k, f = k + 1 := ⟨f - 1, by omega⟩
      exact pk_le 17 (i + 1) (fun _ => hp) (fun _ => br_t (nI_pos' (by omega)) hp)
    · rw [if_neg e] at hp
      by_cases e0 : x = 0
      · subst e0
        rw [if_pos rfl] at hp
        refine nm_r (cq_rP0 p) (nm_r (nI_1 i) ?_)
        obtain ⟨f, rfl⟩ : ∃ k, f = k + 1 := ⟨f - 1, by omega⟩
        exact pk_le 17 (i + 1) (fun _ => hp) (fun _ => br_f (by decide) (br_t (by decide) hp))
      · rw [if_neg e0] at hp
        have := hT x (by omega) hx
        exact nm_r (cq_rPp p e0 (by omega)) (nm_r (nI_1 i) (ih (p x) (i + 1) f (by omega) (by omega) (by omega) (by omega) hp))
theorem cq_y_p76 (hJ : cq_J c l n p g m) (hD : cq_D T' B' n p z) {s : Nat} (hs : s < n) (hp : wY_preempt_156 post J x1 x2 (nI s) (cq_oI (cq_fs p m z s)) (nI c) (nI l) (nI n) (nI (cq_t z)) (cq_P p) (cq_A g) (cq_A m) (cq_A (cq_r z)) (cq_A (cq_id z)) (cq_A (cq_cl z)) (cq_A (cq_cu z)) (cq_V (cq_lv z))) : wY_preempt_76 post J x1 x2 (nI s) (nI c) (nI l) (nI n) (nI (cq_t z)) (cq_P p) (cq_A g) (cq_A m) (cq_A (cq_r z)) (cq_A (cq_id z)) (cq_A (cq_cl z)) (cq_A (cq_cu z)) (cq_V (cq_lv z)) := by
  have hn := hJ.1.2.2.2.2
  unfold cq_fs at hp
  refine br_t (nI_pos' (by omega)) ⟨vp_in_nI (by omega) (by omega), ?_⟩
  by_cases e0 : s = 0
  · subst e0
    rw [if_pos rfl] at hp
    exact nm_r (cq_rP0 p) (Exists.intro 1 (pk_le 17 0 (fun h => by omega) (fun _ => br_f (by decide) (br_t (by decide) hp))))
  · rw [if_neg e0] at hp
    have := hJ.2.1 s (by omega) hs
    exact nm_r (cq_rPp p e0 (by omega)) (Exists.intro 18 (cq_y_p97 hJ hD 16 (p s) 0 18 (by omega) (by omega) (by omega) (by omega) hp))
theorem cq_y_vi (hJ : cq_J c l n p g m) (hD : cq_D T' B' n p z) (hT' : T' < 2 ^ 31) {a s : Nat} (ha : a < n) (hs : s < n) (h0 : cq_vi p g z a s 64 = none → post x1 (cq_Y c l n p g m z)) (h1 : ∀ v, cq_vi p g z a s 64 = some v → wpY_grant (fun r u => match u with
    | (f1, f2, f3, f4, a1, a2, a3, a4, a5, a6, a7, a8) => ∀ y1, y1 = x1 + 1 → ∀ y2, y2 = x2 + 1 → J y1 y2 f1 f2 f3 f4 a1 a2 a3 a4 a5 a6 a7 a8) (cq_Y c l n p g m (cq_rq z v)) (nI s)) : ∀ d i f, i + d = 64 → d < f → wY_preempt_170 post J x1 x2 (nI s) (nI a) (nI c) (nI l) (nI n) (nI (cq_t z)) (cq_P p) (cq_A g) (cq_A m) (cq_A (cq_r z)) (cq_A (cq_id z)) (cq_A (cq_cl z)) (cq_A (cq_cu z)) (cq_V (cq_lv z)) f (cq_oI (cq_vi p g z a s i)) (nI i) := by
  have hJ' := hJ
  obtain ⟨⟨k1, k2, k3, k4, hn⟩, hT, hg, hm, k0⟩ := hJ
  intro d
  induction d with
  | zero =>
    intro i f hi hf
    obtain ⟨f, rfl⟩ : ∃ k, f = k + 1 := ⟨f - 1, by omega⟩
    have e : i = 64 := by omega
    subst e
    refine pk_le 64 64 (fun _ => ?_) (fun h => by omega)
    cases ev : cq_vi p g z a s 64 with
    | none => exact br_f (by decide) (h0 ev)
    | some v =>
      obtain ⟨v1, v2, _⟩ := cq_vi_ok ev
      obtain ⟨b1, b2, b3, b4, b5⟩ := hD.2.2.2 v v2
      have iv : vp_in (nI v) 64 := vp_in_nI (by omega) (by omega)
      have ix : vp_in (nI (cq_cl z v) * 4 + nI (cq_cu z v)) 64 := by rw [cq_ix]; exact vp_in_nI (by omega) (by omega)
      refine br_t (nI_pos' (by omega)) ⟨iv, nm_r (cq_w_f (by omega)) ⟨iv, iv, ?_⟩⟩
      have r1 : cq_A (cq_cl z) (cq_oI (some v)).toNatClampNeg = nI (cq_cl z v) := cq_rA (cq_cl z) (show v < 2 ^ 31 by omega)
      have r2 : cq_A (cq_cu z) (cq_oI (some v)).toNatClampNeg = nI (cq_cu z v) := cq_rA (cq_cu z) (show v < 2 ^ 31 by omega)
      rw [r1, r2]
      exact ⟨ix, ix, nm_r (cq_w_inc (by omega)) (h1 v ev)⟩
  | succ d ih =>
    intro i f hi hf
    obtain ⟨f, rfl⟩ : ∃ k, f = k + 1 := ⟨f - 1, by omega⟩
    have ih' := ih (i + 1) f (by omega) (by omega)
    have ii : vp_in (nI i) 64 := vp_in_nI (by omega) (by omega)
    have ht := hD.1.2
    have keep : cq_bw p g z a s i = false → wY_preempt_170 post J x1 x2 (nI s) (nI a) (nI c) (nI l) (nI n) (nI (cq_t z)) (cq_P p) (cq_A g) (cq_A m) (cq_A (cq_r z)) (cq_A (cq_id z)) (cq_A (cq_cl z)) (cq_A (cq_cu z)) (cq_V (cq_lv z)) f (cq_oI (cq_vi p g z a s i)) (nI (i + 1)) := by
      intro e
      have e' : cq_vi p g z a s (i + 1) = cq_vi p g z a s i := cq_fo_k e
      rw [e'] at ih'
      exact ih'
    refine pk_le 64 i (fun h => by omega) (fun _ => ⟨ii, cq_vb (by omega) (fun e => nm_r (nI_1 i) (keep (cq_bw_f e))) (fun hl => ⟨ii, nm_r (cq_rA (cq_cl z) (by omega)) ?_⟩)⟩)
    obtain ⟨a1, a2, a3, a4, a5⟩ := hD.2.2.2 i hl
    have hu : cq_u p z (cq_cl z i) ≤ 64 := cq_us_le _ _ _ _
    have hgx := hg (cq_cl z i)
    have ebw : cq_bw p g z a s i = (!(cq_cl z i == s) && decide (g (cq_cl z i) < cq_u p z (cq_cl z i)) && cq_un p (cq_cl z i) a) := cq_bw_t hl
    refine pk_eq (cq_cl z i) s (fun e => nm_r (nI_1 i) (keep (by rw [ebw]; simp [e]))) (fun e => cq_y_isUnder hT hn a1 (by omega) (cq_b0 (fun e2 => nm_r (nI_1 i) (keep (by rw [ebw, e2]; simp))) (fun e2 => cq_y_usedOf hT hn hD (by omega) ⟨vp_in_nI (by omega) (by omega), cq_if (d := g (cq_cl z i) < cq_u p z (cq_cl z i)) (by rw [cq_rA g (by omega)]; exact nI_ltI (by omega) (by omega)) (fun e3 => ?_) (fun e3 => nm_r (nI_1 i) (keep (by rw [ebw]; simp; omega)))⟩)))
    have bw : cq_bw p g z a s i = true := by
      rw [ebw, e2]
      simp [e, e3]
    rw [cq_vi_s] at ih'
    cases es : cq_vi p g z a s i with
    | none =>
      rw [es] at ih'
      dsimp only at ih'
      rw [if_pos bw] at ih'
      exact br_t (by decide) (nm_r (nI_1 i) ih')
    | some j =>
      obtain ⟨j1, j2, _⟩ := cq_vi_ok es
      obtain ⟨b1, b2, b3, b4, b5⟩ := hD.2.2.2 j j2
      rw [es] at ih'
      dsimp only at ih'
      rw [bw, Bool.true_and] at ih'
      refine br_f (nI_pos (by omega)) ⟨ii, vp_in_nI (by omega) (by omega), cq_if (d := cq_id z i ≤ cq_id z j) (by
        show cq_A (cq_id z) (nI i).toNatClampNeg ≤ cq_A (cq_id z) (nI j).toNatClampNeg ↔ _
        rw [cq_rA (cq_id z) (by omega), cq_rA (cq_id z) (by omega)]
        exact nI_leI (by omega) (by omega)) (fun e4 => nm_r (nI_1 i) ?_) (fun e4 => nm_r (nI_1 i) ?_)⟩
      · rw [show cq_yb z i j = false by unfold cq_yb; simpa using e4] at ih'
        exact ih'
      · rw [show cq_yb z i j = true by unfold cq_yb; simpa using e4] at ih'
        exact ih'
theorem cq_y_pr (hJ : cq_J c l n p g m) : ∀ d i f z T' B', i + d = 64 → cq_D T' B' n p z → T' + d < 2 ^ 30 → B' + d < 2 ^ 30 → d < f → post (nI (i + cq_pn l n p g m d z)) (cq_Y c l n p g m (cq_pz l n p g m d z)) → wY_preempt_9 post f (nI i) (nI i) (nI c) (nI l) (nI n) (nI (cq_t z)) (cq_P p) (cq_A g) (cq_A m) (cq_A (cq_r z)) (cq_A (cq_id z)) (cq_A (cq_cl z)) (cq_A (cq_cu z)) (cq_V (cq_lv z)) := by
  have hJ' := hJ
  obtain ⟨⟨k1, k2, k3, k4, hn⟩, hT, hg, hm, k0⟩ := hJ
  intro d
  induction d with
  | zero =>
    intro i f z T' B' hi hD hT' hB hf hp
    obtain ⟨f, rfl⟩ : ∃ k, f = k + 1 := ⟨f - 1, by omega⟩
    exact pk_le 64 i (fun _ => hp) (fun h => by omega)
  | succ d ih =>
    intro i f z T' B' hi hD hT' hB hf hp
    obtain ⟨f, rfl⟩ : ∃ k, f = k + 1 := ⟨f - 1, by omega⟩
    rw [cq_pz_s, cq_pn_s] at hp
    refine pk_le 64 i (fun h => by omega) (fun _ => Exists.intro (n + 2) (cq_y_p20 hJ' hD (by omega) n 0 (n + 2) (by omega) (by omega) ?_))
    have e0 : cq_rd l n p g m z = none → post (nI i) (cq_Y c l n p g m z) := by
      intro e
      rw [e] at hp
      exact hp
    show wY_preempt_76 post (wY_preempt_9 post f) (nI i) (nI i) (cq_oI (cq_sv l n p g z)) (nI c) (nI l) (nI n) (nI (cq_t z)) (cq_P p) (cq_A g) (cq_A m) (cq_A (cq_r z)) (cq_A (cq_id z)) (cq_A (cq_cl z)) (cq_A (cq_cu z)) (cq_V (cq_lv z))
    cases es : cq_sv l n p g z with
    | none => exact br_f (by decide) (e0 (by unfold cq_rd; rw [es]))
    | some s =>
      obtain ⟨s1, s2, s3, s4⟩ := cq_sv_ok es
      refine cq_y_p76 hJ' hD s1 ?_
      cases ea : cq_fs p m z s with
      | none => exact br_f (by decide) (e0 (by unfold cq_rd; rw [es]; dsimp only; rw [ea]))
      | some a =>
        obtain ⟨a1, a2, a3⟩ := cq_fs_in hT s1 ea
        refine br_t (nI_pos' (by omega)) (Exists.intro 65 (cq_y_vi hJ' hD (by omega) a2 s1 (fun ev => e0 (by unfold cq_rd; rw [es]; dsimp only; rw [ea]; dsimp only; rw [ev])) (fun v ev => ?_) 64 0 65 (by omega) (by omega)))
        have erd : cq_rd l n p g m z = some (cq_gr l s (cq_rq z v)) := by unfold cq_rd; rw [es]; dsimp only; rw [ea]; dsimp only; rw [ev]
        rw [erd] at hp
        dsimp only at hp
        refine cq_y_grant hn k3 (cq_D_rq hD (cq_vi_ok ev).2.1) (by omega) s1 (nm_r (nI_1 i) (nm_r (nI_1 i) (ih (i + 1) f _ (T' + 1) (B' + 1) (by omega) (cq_rd_D hD erd) (by omega) (by omega) (by omega) ?_)))
        rw [show i + 1 + cq_pn l n p g m d (cq_gr l s (cq_rq z v)) = i + (cq_pn l n p g m d (cq_gr l s (cq_rq z v)) + 1) by omega]
        exact hp
theorem cq_y_preempt (hJ : cq_J c l n p g m) (hD : cq_D T' B' n p z) (hT' : T' + 128 < 2 ^ 30) (hB : B' + 64 < 2 ^ 30) (hp : post (nI (cq_pn l n p g m 64 (cq_fz l n p g m c z))) (cq_Y c l n p g m (cq_pz l n p g m 64 (cq_fz l n p g m c z)))) : wpY_preempt post (cq_Y c l n p g m z) := by
  have hh := hJ.1
  unfold wpY_preempt
  refine cq_y_fill hJ (by omega) hD (Exists.intro 65 (cq_y_pr hJ 64 0 65 _ (T' + c) B' (by omega) (cq_fz_D hJ.2.1 hh.2.2.2.1 hh.2.2.2.2 c T' z hD) (by omega) (by omega) (by omega) ?_))
  rw [Nat.zero_add]
  exact hp
end
