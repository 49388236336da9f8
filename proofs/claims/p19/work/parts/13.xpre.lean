/-! the class: taking back -/
section
variable {c l n : Nat} {p g m : Nat → Nat} {z : cq_Z} {op : Nat → Int32} {A B : Prop} {T' B' : Nat}
theorem cq_fa_s (p m : Nat → Nat) (z : cq_Z) (f x : Nat) : cq_fa p m z (f + 1) x = (if cq_u p z x = m x then some x else if x = 0 then none else cq_fa p m z f (p x)) := rfl
theorem cq_fa_un (hT : cq_T p n) : ∀ f x a, x < n → cq_fa p m z f x = some a → cq_un p x a = true := by
  intro f
  induction f with
  | zero =>
    intro x a _ h
    exact absurd h (by simp [cq_fa])
  | succ f ih =>
    intro x a hx h
    rw [cq_fa_s] at h
    by_cases e : cq_u p z x = m x
    · rw [if_pos e] at h
      cases h
      exact cq_un_self p x
    · rw [if_neg e] at h
      by_cases e0 : x = 0
      · rw [if_pos e0] at h
        exact absurd h (by simp)
      · rw [if_neg e0] at h
        have hp := hT x (by omega) hx
        rw [cq_un_p hT e0 hx, ih (p x) a (by omega) h]
        simp
theorem cq_fs_in (hT : cq_T p n) {s a : Nat} (hs : s < n) (h : cq_fs p m z s = some a) : s ≠ 0 ∧ a < n ∧ cq_cc p n a ≠ 0 := by
  unfold cq_fs at h
  by_cases e0 : s = 0
  · rw [if_pos e0] at h
    exact absurd h (by simp)
  · rw [if_neg e0] at h
    have hp := hT s (by omega) hs
    have h1 := cq_fa_un hT 16 (p s) a (by omega) h
    have h2 := cq_un_le hT (p s + 1) (p s) a (by omega) (by omega) h1
    have h3 : cq_un p s a = true := by
      rw [cq_un_p hT e0 hs, h1]
      simp
    obtain ⟨j, a1, a2, a3, _⟩ := cq_un_ch hT (s + 1) s (by omega) hs h3 (by omega)
    exact ⟨e0, by omega, fun w => cq_cc_0 w a1 a2 a3⟩
theorem cq_st_no {q : Nat} (h : ¬ (cq_cc p n q = 0 ∧ cq_u p z q < g q ∧ 0 < cq_e l z q)) : ¬ cq_st l n p g z q = true := by
  intro e
  unfold cq_st at e
  simp only [Bool.and_eq_true, decide_eq_true_eq] at e
  exact h ⟨e.1.1, e.1.2, e.2⟩
theorem cq_st_yes {q : Nat} (h1 : cq_cc p n q = 0) (h2 : cq_u p z q < g q) (h3 : 0 < cq_e l z q) : cq_st l n p g z q = true := by
  unfold cq_st
  simp only [Bool.and_eq_true, decide_eq_true_eq]
  exact ⟨⟨h1, h2⟩, h3⟩
theorem cq_x_sv (hJ : cq_J c l n p g m) (hD : cq_D T' B' n p z) (hB : B' < 2 ^ 30) {post : Int32 → Prop} : ∀ d i f, i + d = n → d < f → post (cq_oI (cq_fnd (cq_st l n p g z) i d)) → wX_lowestStarvedLeaf_2 post (nI c) (nI l) (nI n) (lN (cq_t z)) (cq_P p) (cq_A (cq_cc p n)) (cq_A g) (cq_A m) (cq_A (cq_u p z)) (cq_A (cq_r z)) (cq_A (cq_h z)) (cq_G (cq_lv z) (cq_id z)) (cq_A (cq_cl z)) (cq_A (cq_cu z)) op f (nI i) := by
  have hJ' := hJ
  obtain ⟨⟨h1, h2, h3, h4, hn⟩, hT, hg, hm, h0⟩ := hJ
  intro d
  induction d with
  | zero =>
    intro i f hi hf hp
    obtain ⟨f, rfl⟩ : ∃ k, f = k + 1 := ⟨f - 1, by omega⟩
    exact pk_le n i (fun _ => hp) (fun h => by omega)
  | succ d ih =>
    intro i f hi hf hp
    obtain ⟨f, rfl⟩ : ∃ k, f = k + 1 := ⟨f - 1, by omega⟩
    have ii : vp_in (nI i) 16 := vp_in_nI (by omega) (by omega)
    have hu : cq_u p z i ≤ 64 := cq_us_le _ _ _ _
    have hgi := hg i
    have he := cq_e_le l z i
    rw [cq_fnd_s] at hp
    have nxt : ¬ (cq_cc p n i = 0 ∧ cq_u p z i < g i ∧ 0 < cq_e l z i) → wX_lowestStarvedLeaf_2 post (nI c) (nI l) (nI n) (lN (cq_t z)) (cq_P p) (cq_A (cq_cc p n)) (cq_A g) (cq_A m) (cq_A (cq_u p z)) (cq_A (cq_r z)) (cq_A (cq_h z)) (cq_G (cq_lv z) (cq_id z)) (cq_A (cq_cl z)) (cq_A (cq_cu z)) op f (nI (i + 1)) := by
      intro h
      rw [if_neg (cq_st_no h)] at hp
      exact ih (i + 1) f (by omega) (by omega) hp
    refine pk_le n i (fun h => by omega) (fun _ => ⟨ii, cq_if (cq_c1 hn (by omega)) (fun e => ⟨ii, ii, cq_if (d := g i ≤ cq_u p z i) (by rw [cq_rA g (by omega), cq_rA (cq_u p z) (by omega)]; exact nI_leI (by omega) (by omega)) (fun e2 => nm_r (nI_1 i) (nxt (by omega))) (fun e2 => cq_x_eligibleDemand hn h3 hD hB (by omega) ?_)⟩) (fun e => nm_r (nI_1 i) (nxt (by omega)))⟩)
    by_cases e3 : 0 < cq_e l z i
    · refine br_f (by rw [show (0 : Int64) = lN 0 from rfl, lN_le (by omega) (by decide)]; omega) ?_
      rw [if_pos (cq_st_yes e (by omega) e3)] at hp
      exact hp
    · exact br_t (by rw [show (0 : Int64) = lN 0 from rfl, lN_le (by omega) (by decide)]; omega) (nm_r (nI_1 i) (nxt (by omega)))
theorem cq_x_lowestStarvedLeaf (hJ : cq_J c l n p g m) (hD : cq_D T' B' n p z) (hB : B' < 2 ^ 30) {post : Int32 → Prop} (hp : post (cq_oI (cq_sv l n p g z))) : wpX_lowestStarvedLeaf post (cq_X c l n p g m z op) :=
  Exists.intro (n + 1) (cq_x_sv hJ hD hB n 0 (n + 1) (by omega) (by omega) hp)
theorem cq_x_fa (hJ : cq_J c l n p g m) {post : Int32 → Prop} : ∀ k x i f, i + k = 16 → x < n → k + 1 < f → post (cq_oI (cq_fa p m z k x)) → wX_nearestFullAncestor_9 post (nI c) (nI l) (nI n) (lN (cq_t z)) (cq_P p) (cq_A (cq_cc p n)) (cq_A g) (cq_A m) (cq_A (cq_u p z)) (cq_A (cq_r z)) (cq_A (cq_h z)) (cq_G (cq_lv z) (cq_id z)) (cq_A (cq_cl z)) (cq_A (cq_cu z)) op f (nI x) (nI i) := by
  obtain ⟨⟨h1, h2, h3, h4, hn⟩, hT, hg, hm, h0⟩ := hJ
  intro k
  induction k with
  | zero =>
    intro x i f hi hx hf hp
    obtain ⟨f, rfl⟩ : ∃ k, f = k + 1 := ⟨f - 1, by omega⟩
    exact pk_le 16 i (fun _ => hp) (fun h => by omega)
  | succ k ih =>
    intro x i f hi hx hf hp
    obtain ⟨f, rfl⟩ : ∃ k, f = k + 1 := ⟨f - 1, by omega⟩
    have ix : vp_in (nI x) 16 := vp_in_nI (by omega) (by omega)
    have hu : cq_u p z x ≤ 64 := cq_us_le _ _ _ _
    have hmx := hm x
    rw [cq_fa_s] at hp
    refine pk_le 16 i (fun h => by omega) (fun _ => br_f (cq_m1 (by omega)) ⟨ix, ix, cq_if (d := cq_u p z x = m x) (by rw [cq_rA m (by omega), cq_rA (cq_u p z) (by omega)]; exact nI_eq (by omega) (by omega)) (fun e => ?_) (fun e => ⟨ix, ?_⟩)⟩)
    · rw [if_pos e] at hp
      exact hp
    · rw [if_neg e] at hp
      by_cases e0 : x = 0
      · subst e0
        rw [if_pos rfl] at hp
        refine nm_r (cq_rP0 p) (nm_r (nI_1 i) ?_)
        obtain ⟨f, rfl⟩ : ∃ k, f = k + 1 := ⟨f - 1, by omega⟩
        exact pk_le 16 (i + 1) (fun _ => hp) (fun _ => br_t rfl hp)
      · rw [if_neg e0] at hp
        have := hT x (by omega) hx
        exact nm_r (cq_rPp p e0 (by omega)) (nm_r (nI_1 i) (ih (p x) (i + 1) f (by omega) (by omega) (by omega) hp))
theorem cq_x_nearestFullAncestor (hJ : cq_J c l n p g m) {s : Nat} (hs : s < n) {post : Int32 → Prop} (hp : post (cq_oI (cq_fs p m z s))) : wpX_nearestFullAncestor post (cq_X c l n p g m z op) (nI s) := by
  have hn := hJ.1.2.2.2.2
  unfold cq_fs at hp
  refine ⟨vp_in_nI (by omega) (by omega), ?_⟩
  by_cases e0 : s = 0
  · subst e0
    rw [if_pos rfl] at hp
    exact nm_r (cq_rP0 p) (Exists.intro 1 (pk_le 16 0 (fun h => by omega) (fun _ => br_t rfl hp)))
  · rw [if_neg e0] at hp
    have := hJ.2.1 s (by omega) hs
    exact nm_r (cq_rPp p e0 (by omega)) (Exists.intro 18 (cq_x_fa hJ 16 (p s) 0 18 (by omega) (by omega) (by omega) hp))
theorem cq_x_ib (hT : cq_T p n) (hn : n ≤ 16) {a : Nat} (ha : a < 2 ^ 31) {post : Int32 → Prop} : ∀ d x i f, x < d → x < n → x + i ≤ 15 → d < f → post (cq_bI (cq_un p x a)) → wX_isBelow_10 post (nI a) (nI c) (nI l) (nI n) (lN (cq_t z)) (cq_P p) (cq_A (cq_cc p n)) (cq_A g) (cq_A m) (cq_A (cq_u p z)) (cq_A (cq_r z)) (cq_A (cq_h z)) (cq_G (cq_lv z) (cq_id z)) (cq_A (cq_cl z)) (cq_A (cq_cu z)) op f (nI x) (nI i) := by
  intro d
  induction d with
  | zero =>
    intro x i f h
    omega
  | succ d ih =>
    intro x i f hd hx hi hf hp
    obtain ⟨f, rfl⟩ : ∃ k, f = k + 1 := ⟨f - 1, by omega⟩
    refine pk_le 16 i (fun h => by omega) (fun _ => br_f (cq_m1 (by omega)) (pk_eq x a (fun e => ?_) (fun e => ⟨vp_in_nI (by omega) (by omega), ?_⟩)))
    · subst e
      rw [cq_un_self] at hp
      exact hp
    · by_cases h0 : x = 0
      · subst h0
        refine nm_r (cq_rP0 p) (nm_r (nI_1 i) ?_)
        obtain ⟨f, rfl⟩ : ∃ k, f = k + 1 := ⟨f - 1, by omega⟩
        rw [cq_un_00, show ((0 : Nat) == a) = false by simpa using e] at hp
        exact pk_le 16 (i + 1) (fun _ => hp) (fun _ => br_t rfl hp)
      · have hpx := hT x (by omega) hx
        rw [cq_un_ne hT h0 hx e] at hp
        exact nm_r (cq_rPp p h0 (by omega)) (nm_r (nI_1 i) (ih (p x) (i + 1) f (by omega) (by omega) (by omega) (by omega) hp))
theorem cq_x_isBelow (hT : cq_T p n) (hn : n ≤ 16) {x a : Nat} (hx : x < n) (ha : a < 2 ^ 31) (hne : x ≠ a) {post : Int32 → Prop} (hp : post (cq_bI (cq_un p x a))) : wpX_isBelow post (cq_X c l n p g m z op) (nI x) (nI a) := by
  refine ⟨vp_in_nI (by omega) (by omega), ?_⟩
  by_cases h0 : x = 0
  · subst h0
    rw [cq_un_00, show ((0 : Nat) == a) = false by simpa using hne] at hp
    exact nm_r (cq_rP0 p) (Exists.intro 1 (pk_le 16 0 (fun h => by omega) (fun _ => br_t rfl hp)))
  · have hpx := hT x (by omega) hx
    rw [cq_un_ne hT h0 hx hne] at hp
    exact nm_r (cq_rPp p h0 (by omega)) (Exists.intro (p x + 2) (cq_x_ib hT hn ha (p x + 1) (p x) 0 (p x + 2) (by omega) (by omega) (by omega) (by omega) hp))
def cq_bo (p g : Nat → Nat) (z : cq_Z) (a s x : Nat) : Bool := !(x == s) && decide (g x < cq_u p z x) && cq_un p x a
theorem cq_bw_t {a s i : Nat} (h : cq_lv z i = true) : cq_bw p g z a s i = cq_bo p g z a s (cq_cl z i) := by
  unfold cq_bw cq_bo
  rw [h, Bool.true_and]
theorem cq_bw_f {a s i : Nat} (h : cq_lv z i = false) : cq_bw p g z a s i = false := by
  unfold cq_bw
  rw [h]
  simp
theorem cq_x_isBorrower (hJ : cq_J c l n p g m) {x a s : Nat} (hx : x < n) (ha : a < n) (hs : s < n) (hne : x ≠ a) {post : Int32 → Prop} (hp : post (cq_bI (cq_bo p g z a s x))) : wpX_isBorrower post (cq_X c l n p g m z op) (nI x) (nI a) (nI s) := by
  obtain ⟨⟨h1, h2, h3, h4, hn⟩, hT, hg, hm, h0⟩ := hJ
  have ix : vp_in (nI x) 16 := vp_in_nI (by omega) (by omega)
  have hu : cq_u p z x ≤ 64 := cq_us_le _ _ _ _
  have hgx := hg x
  unfold cq_bo at hp
  refine pk_eq x s (fun e => ?_) (fun e => ⟨ix, ix, cq_if (d := cq_u p z x ≤ g x) (by rw [cq_rA g (by omega), cq_rA (cq_u p z) (by omega)]; exact nI_leI (by omega) (by omega)) (fun e2 => ?_) (fun e2 => cq_x_isBelow hT hn hx (by omega) hne ?_)⟩)
  · rw [show (x == s) = true by simpa using e] at hp
    exact hp
  · rw [show decide (g x < cq_u p z x) = false by simpa using e2, Bool.and_false, Bool.false_and] at hp
    exact hp
  · rw [show (x == s) = false by simpa using e, show decide (g x < cq_u p z x) = true by simpa using e2] at hp
    cases e3 : cq_un p x a with
    | false =>
      rw [e3] at hp
      exact br_t rfl hp
    | true =>
      rw [e3] at hp
      exact br_f (by decide) hp
theorem cq_vi_s (p g : Nat → Nat) (z : cq_Z) (a s i : Nat) : cq_vi p g z a s (i + 1) = (match cq_vi p g z a s i with
    | none => if cq_bw p g z a s i then some i else none
    | some j => if cq_bw p g z a s i && cq_yb z i j then some i else some j) := rfl
theorem cq_x_vi (hJ : cq_J c l n p g m) (hD : cq_D T' B' n p z) (hT' : T' < 2 ^ 31) {a s : Nat} (ha : a < n) (hs : s < n) (hc : cq_cc p n a ≠ 0) {post : Int32 → Prop} (hp : post (cq_oI (cq_vi p g z a s 64))) : ∀ d i f, i + d = 64 → d < f → wX_youngestBorrowedSlot_5 post (nI a) (nI s) (nI c) (nI l) (nI n) (lN (cq_t z)) (cq_P p) (cq_A (cq_cc p n)) (cq_A g) (cq_A m) (cq_A (cq_u p z)) (cq_A (cq_r z)) (cq_A (cq_h z)) (cq_G (cq_lv z) (cq_id z)) (cq_A (cq_cl z)) (cq_A (cq_cu z)) op f (cq_oI (cq_vi p g z a s i)) (nI i) := by
  intro d
  induction d with
  | zero =>
    intro i f hi hf
    obtain ⟨f, rfl⟩ : ∃ k, f = k + 1 := ⟨f - 1, by omega⟩
    have e : i = 64 := by omega
    subst e
    exact pk_le 64 64 (fun _ => hp) (fun h => by omega)
  | succ d ih =>
    intro i f hi hf
    obtain ⟨f, rfl⟩ : ∃ k, f = k + 1 := ⟨f - 1, by omega⟩
    have ih' := ih (i + 1) f (by omega) (by omega)
    have ii : vp_in (nI i) 64 := vp_in_nI (by omega) (by omega)
    have ht := hD.1.2
    have keep : cq_bw p g z a s i = false → wX_youngestBorrowedSlot_5 post (nI a) (nI s) (nI c) (nI l) (nI n) (lN (cq_t z)) (cq_P p) (cq_A (cq_cc p n)) (cq_A g) (cq_A m) (cq_A (cq_u p z)) (cq_A (cq_r z)) (cq_A (cq_h z)) (cq_G (cq_lv z) (cq_id z)) (cq_A (cq_cl z)) (cq_A (cq_cu z)) op f (cq_oI (cq_vi p g z a s i)) (nI (i + 1)) := by
      intro e
      have e' : cq_vi p g z a s (i + 1) = cq_vi p g z a s i := cq_fo_k e
      rw [e'] at ih'
      exact ih'
    refine pk_le 64 i (fun h => by omega) (fun _ => ⟨ii, cq_if (d := cq_fr z i = true) (by rw [nI_clamp (by omega)]; exact cq_F0 hD hT' i) (fun e => nm_r (nI_1 i) (keep (cq_bw_f (by unfold cq_fr at e; simpa using e)))) (fun e => ⟨ii, ?_⟩)⟩)
    have hl : cq_lv z i = true := by unfold cq_fr at e; simpa using e
    obtain ⟨a1, a2, a3, a4, a5⟩ := hD.2.2.2 i hl
    rw [cq_rA (cq_cl z) (by omega)]
    refine cq_x_isBorrower hJ a1 ha hs (fun w => hc (w ▸ a5)) (cq_b0 (fun e2 => nm_r (nI_1 i) (keep (by rw [cq_bw_t hl]; exact e2))) (fun e2 => ?_))
    have bw : cq_bw p g z a s i = true := by rw [cq_bw_t hl]; exact e2
    rw [cq_vi_s] at ih'
    cases es : cq_vi p g z a s i with
    | none =>
      rw [es] at ih'
      dsimp only at ih'
      rw [if_pos bw] at ih'
      exact br_t rfl (nm_r (nI_1 i) ih')
    | some j =>
      obtain ⟨j1, j2, _⟩ := cq_vi_ok es
      obtain ⟨b1, b2, b3, b4, b5⟩ := hD.2.2.2 j j2
      rw [es] at ih'
      dsimp only at ih'
      rw [bw, Bool.true_and] at ih'
      refine br_f (cq_m1 (by omega)) ⟨ii, vp_in_nI (by omega) (by omega), cq_if (d := cq_id z i ≤ cq_id z j) (by
        show cq_G (cq_lv z) (cq_id z) (nI i).toNatClampNeg ≤ cq_G (cq_lv z) (cq_id z) (nI j).toNatClampNeg ↔ _
        rw [nI_clamp (by omega), nI_clamp (by omega), cq_G_t hl, cq_G_t j2]
        exact lN_le (by omega) (by omega)) (fun e3 => nm_r (nI_1 i) ?_) (fun e3 => nm_r (nI_1 i) ?_)⟩
      · rw [show cq_yb z i j = false by unfold cq_yb; simpa using e3] at ih'
        exact ih'
      · rw [show cq_yb z i j = true by unfold cq_yb; simpa using e3] at ih'
        exact ih'
theorem cq_x_youngestBorrowedSlot (hJ : cq_J c l n p g m) (hD : cq_D T' B' n p z) (hT' : T' < 2 ^ 31) {a s : Nat} (ha : a < n) (hs : s < n) (hc : cq_cc p n a ≠ 0) {post : Int32 → Prop} (hp : post (cq_oI (cq_vi p g z a s 64))) : wpX_youngestBorrowedSlot post (cq_X c l n p g m z op) (nI a) (nI s) :=
  Exists.intro 65 (cq_x_vi hJ hD hT' ha hs hc hp 64 0 65 (by omega) (by omega))
theorem cq_x_takeBack (hJ : cq_J c l n p g m) (hD : cq_D T' B' n p z) (hB : B' + 1 < 2 ^ 30) (hT' : T' < 2 ^ 31) {post : Int32 → St2 → Prop} (h0 : cq_rd l n p g m z = none → post 0 (cq_X c l n p g m z op)) (h1 : ∀ z', cq_rd l n p g m z = some z' → post 1 (cq_X c l n p g m z' op)) : wpX_takeBackOneUnit post (cq_X c l n p g m z op) := by
  have hn := hJ.1.2.2.2.2
  have h64 := hJ.1.2.2.1
  have hT := hJ.2.1
  unfold wpX_takeBackOneUnit
  refine cq_x_lowestStarvedLeaf hJ hD (by omega) ?_
  cases es : cq_sv l n p g z with
  | none => exact br_t rfl (h0 (by unfold cq_rd; rw [es]))
  | some s =>
    obtain ⟨s1, s2, s3, s4⟩ := cq_sv_ok es
    refine br_f (cq_m1 (by omega)) (cq_x_nearestFullAncestor hJ s1 ?_)
    cases ea : cq_fs p m z s with
    | none => exact br_t rfl (h0 (by unfold cq_rd; rw [es]; dsimp only; rw [ea]))
    | some a =>
      obtain ⟨a1, a2, a3⟩ := cq_fs_in hT s1 ea
      refine br_f (cq_m1 (by omega)) (cq_x_youngestBorrowedSlot hJ hD hT' a2 s1 a3 ?_)
      cases ev : cq_vi p g z a s 64 with
      | none => exact br_t rfl (h0 (by unfold cq_rd; rw [es]; dsimp only; rw [ea]; dsimp only; rw [ev]))
      | some v =>
        obtain ⟨v1, v2, _⟩ := cq_vi_ok ev
        obtain ⟨b1, b2, b3, b4, b5⟩ := hD.2.2.2 v v2
        have hp := h1 (cq_gr l s (cq_rq z v)) (by unfold cq_rd; rw [es]; dsimp only; rw [ea]; dsimp only; rw [ev])
        have iv : vp_in (nI v) 64 := vp_in_nI (by omega) (by omega)
        have ix : vp_in (nI (cq_cl z v * 4 + cq_cu z v)) 64 := vp_in_nI (by omega) (by omega)
        refine br_f (cq_m1 (by omega)) ⟨iv, iv, nm_r (e' := nI (cq_cl z v * 4 + cq_cu z v)) (by
          show cq_A (cq_cl z) (nI v).toNatClampNeg * 4 + cq_A (cq_cu z) (nI v).toNatClampNeg = _
          rw [cq_rA (cq_cl z) (by omega), cq_rA (cq_cu z) (by omega), cq_ix]) (cq_x_remove hT hn hD v1 v2 ⟨ix, ix, nm_r (e' := cq_A (cq_r (cq_rq z v))) (by
          show upd (cq_A (cq_r z)) _ (cq_A (cq_r z) _ + 1) = _
          rw [cq_rA (cq_r z) (by omega), nI_clamp (by omega), nI_1, cq_A_up]
          rfl) (cq_x_grant (z := cq_rq z v) hT hn h64 (cq_D_rq hD v2) hB hT' s1 hp)⟩)⟩
theorem cq_pz_s (l n : Nat) (p g m : Nat → Nat) (d : Nat) (z : cq_Z) : cq_pz l n p g m (d + 1) z = (match cq_rd l n p g m z with
    | none => z
    | some z' => cq_pz l n p g m d z') := rfl
theorem cq_pn_s (l n : Nat) (p g m : Nat → Nat) (d : Nat) (z : cq_Z) : cq_pn l n p g m (d + 1) z = (match cq_rd l n p g m z with
    | none => 0
    | some z' => cq_pn l n p g m d z' + 1) := rfl
theorem cq_x_pr (hJ : cq_J c l n p g m) {post : Int32 → St2 → Prop} : ∀ d i f z T' B', i + d = 64 → cq_D T' B' n p z → T' + d < 2 ^ 30 → B' + d < 2 ^ 30 → d < f → post (nI (i + cq_pn l n p g m d z)) (cq_X c l n p g m (cq_pz l n p g m d z) op) → wX_preempt_9 post f (nI i) (nI i) (nI c) (nI l) (nI n) (lN (cq_t z)) (cq_P p) (cq_A (cq_cc p n)) (cq_A g) (cq_A m) (cq_A (cq_u p z)) (cq_A (cq_r z)) (cq_A (cq_h z)) (cq_G (cq_lv z) (cq_id z)) (cq_A (cq_cl z)) (cq_A (cq_cu z)) op := by
  intro d
  induction d with
  | zero =>
    intro i f z T' B' hi hD hT' hB hf hp
    obtain ⟨f, rfl⟩ : ∃ k, f = k + 1 := ⟨f - 1, by omega⟩
    exact pk_le 64 i (fun _ => hp) (fun h => by omega)
  | succ d ih =>
    intro i f z T' B' hi hD hT' hB hf hp
    obtain ⟨f, rfl⟩ : ∃ k, f = k + 1 := ⟨f - 1, by omega⟩
    rw [cq_pz_s, cq_pn_s] at hp
    refine pk_le 64 i (fun h => by omega) (fun _ => cq_x_takeBack hJ hD (by omega) (by omega) (fun e => ?_) (fun z' e => ?_))
    · rw [e] at hp
      exact br_t rfl hp
    · rw [e] at hp
      dsimp only at hp
      refine br_f (by decide) (nm_r (nI_1 i) (nm_r (nI_1 i) (ih (i + 1) f z' (T' + 1) (B' + 1) (by omega) (cq_rd_D hD e) (by omega) (by omega) (by omega) ?_)))
      rw [show i + 1 + cq_pn l n p g m d z' = i + (cq_pn l n p g m d z' + 1) by omega]
      exact hp
theorem cq_x_preempt (hJ : cq_J c l n p g m) (hD : cq_D T' B' n p z) (hT' : T' + 128 < 2 ^ 30) (hB : B' + 64 < 2 ^ 30) {post : Int32 → St2 → Prop} (hp : ∀ op', post (nI (cq_pn l n p g m 64 (cq_fz l n p g m c z))) (cq_X c l n p g m (cq_pz l n p g m 64 (cq_fz l n p g m c z)) op')) : wpX_preempt post (cq_X c l n p g m z op) := by
  have hh := hJ.1
  unfold wpX_preempt
  refine cq_x_fill hJ (by omega) hD (by omega) (fun op' => Exists.intro 65 (cq_x_pr hJ 64 0 65 _ (T' + c) B' (by omega) (cq_fz_D hJ.2.1 hh.2.2.2.1 hh.2.2.2.2 c T' z hD) (by omega) (by omega) (by omega) ?_))
  rw [Nat.zero_add]
  exact hp op'
end
