/-! the class's readers -/
abbrev cq_X (c l n : Nat) (p g m : Nat → Nat) (z : cq_Z) (op : Nat → Int32) : St2 := (nI c, nI l, nI n, lN (cq_t z), cq_P p, cq_A (cq_cc p n), cq_A g, cq_A m, cq_A (cq_u p z), cq_A (cq_r z), cq_A (cq_h z), cq_G (cq_lv z) (cq_id z), cq_A (cq_cl z), cq_A (cq_cu z), op)
section
variable {c l n : Nat} {p g m : Nat → Nat} {z : cq_Z} {op : Nat → Int32} {post : Int32 → Prop} {A B : Prop} {T' B' : Nat}
theorem cq_x_isQueue_no {v : Int32} (h : v < 0 ∨ nI n ≤ v) (hp : post 0) : wpX_isQueue post (cq_X c l n p g m z op) v := by
  by_cases h0 : v < 0
  · exact br_t h0 hp
  · exact br_f h0 (br_t (h.resolve_left h0) hp)
theorem cq_x_isQueue (hn : n ≤ 16) {j : Nat} (hj : j < n) (hp : post 1) : wpX_isQueue post (cq_X c l n p g m z op) (nI j) :=
  br_f (nI_pos (by omega)) (pk_le n j (fun h => by omega) (fun _ => hp))
theorem cq_x_isLeaf_no {v : Int32} (h : v < 0 ∨ nI n ≤ v) (hp : post 0) : wpX_isLeaf post (cq_X c l n p g m z op) v := by
  unfold wpX_isLeaf
  exact cq_x_isQueue_no h (br_t rfl hp)
theorem cq_c1 (hn : n ≤ 16) {j : Nat} (hj : j < n) : cq_A (cq_cc p n) (nI j).toNatClampNeg = 0 ↔ cq_cc p n j = 0 := by
  have := cq_cc_le p n j
  exact cq_g1 (by omega) (by omega)
theorem cq_x_isLeaf (hn : n ≤ 16) {j : Nat} (hj : j < n) (hp : post (cq_bI (!(cq_hc p n j)))) : wpX_isLeaf post (cq_X c l n p g m z op) (nI j) := by
  unfold wpX_isLeaf
  refine cq_x_isQueue hn hj (br_f (by decide) ⟨vp_in_nI (by omega) (by omega), cq_if (cq_c1 hn hj) (fun e => ?_) (fun e => ?_)⟩)
  · rw [cq_hc_f e] at hp
    exact hp
  · rw [cq_hc_t e] at hp
    exact hp
theorem cq_x_isUser_no {v : Int32} (h : v < 0 ∨ nI 4 ≤ v) (hp : post 0) : wpX_isUser post () v := by
  by_cases h0 : v < 0
  · exact br_t h0 hp
  · exact br_f h0 (br_t (h.resolve_left h0) hp)
theorem cq_x_isUser {j : Nat} (hj : j < 4) (hp : post 1) : wpX_isUser post () (nI j) :=
  br_f (nI_pos (by omega)) (pk_le 4 j (fun h => by omega) (fun _ => hp))
def cq_pd (z : cq_Z) (q k : Nat) : Bool := decide (0 < cq_r z (q * 4 + k))
def cq_by (n : Nat) (p : Nat → Nat) (z : cq_Z) (q : Nat) : Bool := decide (cq_cc p n q = 0) && (decide (0 < cq_u p z q) || cq_any (cq_pd z q) 4)
theorem cq_x_by (hn : n ≤ 16) (hD : cq_D T' B' n p z) (hB : B' < 2 ^ 30) {q : Nat} (hq : q < n) (hp : post (cq_bI (cq_any (cq_pd z q) 4))) : ∀ d k f, k + d = 4 → d < f → (∀ j, j < k → cq_pd z q j = false) → wX_isBusyLeaf_23 post (nI q) (nI c) (nI l) (nI n) (lN (cq_t z)) (cq_P p) (cq_A (cq_cc p n)) (cq_A g) (cq_A m) (cq_A (cq_u p z)) (cq_A (cq_r z)) (cq_A (cq_h z)) (cq_G (cq_lv z) (cq_id z)) (cq_A (cq_cl z)) (cq_A (cq_cu z)) op f (nI k) := by
  intro d
  induction d with
  | zero =>
    intro k f hk hf hh
    obtain ⟨f, rfl⟩ : ∃ k, f = k + 1 := ⟨f - 1, by omega⟩
    have e : cq_any (cq_pd z q) 4 = false := cq_any_f fun j hj => hh j (by omega)
    rw [e] at hp
    exact pk_le 4 k (fun _ => hp) (fun h => by omega)
  | succ d ih =>
    intro k f hk hf hh
    obtain ⟨f, rfl⟩ : ∃ k, f = k + 1 := ⟨f - 1, by omega⟩
    have hr := hD.2.1 (q * 4 + k)
    refine pk_le 4 k (fun h => by omega) (fun _ => ⟨by rw [cq_ix]; exact vp_in_nI (by omega) (by omega), cq_if (d := cq_r z (q * 4 + k) = 0) (by rw [cq_ix]; exact cq_g0 (by omega) (by omega)) (fun e => nm_r (nI_1 k) (ih (k + 1) f (by omega) (by omega) (fun j hj => ?_))) (fun e => ?_)⟩)
    · by_cases w : j = k
      · subst w
        unfold cq_pd
        simp [e]
      · exact hh j (by omega)
    · have e2 : cq_any (cq_pd z q) 4 = true := cq_any_iff.mpr ⟨k, by omega, by unfold cq_pd; simp; omega⟩
      rw [e2] at hp
      exact hp
theorem cq_x_isBusyLeaf (hn : n ≤ 16) (hD : cq_D T' B' n p z) (hB : B' < 2 ^ 30) {q : Nat} (hq : q < n) (hp : post (cq_bI (cq_by n p z q))) : wpX_isBusyLeaf post (cq_X c l n p g m z op) (nI q) := by
  have hu : cq_u p z q ≤ 64 := cq_us_le _ _ _ _
  unfold wpX_isBusyLeaf
  refine cq_x_isLeaf hn hq ?_
  unfold cq_by at hp
  by_cases e : cq_cc p n q = 0
  · rw [cq_hc_f e]
    rw [show decide (cq_cc p n q = 0) = true by simpa using e, Bool.true_and] at hp
    refine br_f (by decide) ⟨vp_in_nI (by omega) (by omega), cq_if (cq_g0 (f := cq_u p z) (by omega) (by omega)) (fun e2 => ?_) (fun e2 => ?_)⟩
    · rw [show decide (0 < cq_u p z q) = false by simp [e2], Bool.false_or] at hp
      exact Exists.intro 5 (cq_x_by hn hD hB hq hp 4 0 5 (by omega) (by omega) (fun j hj => by omega))
    · rw [show decide (0 < cq_u p z q) = true by simp; omega, Bool.true_or] at hp
      exact hp
  · rw [cq_hc_t e]
    rw [show decide (cq_cc p n q = 0) = false by simpa using e, Bool.false_and] at hp
    exact br_t rfl hp
theorem cq_cs_s (p g : Nat → Nat) (q j : Nat) : cq_cs p g q (j + 1) = cq_cs p g q j + (if !(j == 0) && (p j == q) then g j else 0) := rfl
theorem cq_pe0 {q : Nat} (hq : q < 2 ^ 31) : ¬ cq_P p (nI 0).toNatClampNeg = nI q := by
  rw [cq_rP0]
  exact fun e => cq_m1 hq e.symm
theorem cq_x_cg (hJ : cq_J c l n p g m) {q : Nat} (hq : q < 2 ^ 31) (hp : post (nI (cq_cs p g q n))) : ∀ d j f, j + d = n → d < f → wX_childGuarantees_4 post (nI q) (nI c) (nI l) (nI n) (lN (cq_t z)) (cq_P p) (cq_A (cq_cc p n)) (cq_A g) (cq_A m) (cq_A (cq_u p z)) (cq_A (cq_r z)) (cq_A (cq_h z)) (cq_G (cq_lv z) (cq_id z)) (cq_A (cq_cl z)) (cq_A (cq_cu z)) op f (nI (cq_cs p g q j)) (nI j) := by
  obtain ⟨⟨h1, h2, h3, h4, hn⟩, hT, hg, hm, h0⟩ := hJ
  intro d
  induction d with
  | zero =>
    intro j f hj hf
    obtain ⟨f, rfl⟩ : ∃ k, f = k + 1 := ⟨f - 1, by omega⟩
    have e : j = n := by omega
    subst e
    exact pk_le j j (fun _ => hp) (fun h => by omega)
  | succ d ih =>
    intro j f hj hf
    obtain ⟨f, rfl⟩ : ∃ k, f = k + 1 := ⟨f - 1, by omega⟩
    have ih' := ih (j + 1) f (by omega) (by omega)
    rw [cq_cs_s] at ih'
    refine pk_le n j (fun h => by omega) (fun _ => ⟨vp_in_nI (by omega) (by omega), ?_⟩)
    by_cases e0 : j = 0
    · subst e0
      exact br_f (cq_pe0 hq) (nm_r (nI_1 0) ih')
    · refine cq_if (cq_pe hT hn e0 (by omega) hq) (fun e => ⟨vp_in_nI (by omega) (by omega), nm_r (by rw [cq_rA g (by omega), nI_add]) (nm_r (nI_1 j) ?_)⟩) (fun e => nm_r (nI_1 j) ?_)
      · rw [if_pos (by simp [e, e0])] at ih'
        exact ih'
      · rw [if_neg (by simp [e])] at ih'
        exact ih'
theorem cq_x_childGuarantees (hJ : cq_J c l n p g m) {q : Nat} (hq : q < 2 ^ 31) (hp : post (nI (cq_cs p g q n))) : wpX_childGuarantees post (cq_X c l n p g m z op) (nI q) :=
  Exists.intro (n + 1) (cq_x_cg hJ hq hp n 0 (n + 1) (by omega) (by omega))
theorem cq_x_sh {a : Int64} {F : Nat → Bool} (hF : ∀ i, i < 64 → (cq_G (cq_lv z) (cq_id z) i = a ↔ F i = true)) : ∀ d i f, i + d = 64 → d < f → post (cq_oI (cq_fnd F i d)) → wX_slotHolding_2 post a (nI c) (nI l) (nI n) (lN (cq_t z)) (cq_P p) (cq_A (cq_cc p n)) (cq_A g) (cq_A m) (cq_A (cq_u p z)) (cq_A (cq_r z)) (cq_A (cq_h z)) (cq_G (cq_lv z) (cq_id z)) (cq_A (cq_cl z)) (cq_A (cq_cu z)) op f (nI i) := by
  intro d
  induction d with
  | zero =>
    intro i f hi hf hp
    obtain ⟨f, rfl⟩ : ∃ k, f = k + 1 := ⟨f - 1, by omega⟩
    exact pk_le 64 i (fun _ => hp) (fun h => by omega)
  | succ d ih =>
    intro i f hi hf hp
    obtain ⟨f, rfl⟩ : ∃ k, f = k + 1 := ⟨f - 1, by omega⟩
    rw [cq_fnd_s] at hp
    refine pk_le 64 i (fun h => by omega) (fun _ => ⟨vp_in_nI (by omega) (by omega), cq_if (d := F i = true) (by rw [nI_clamp (by omega)]; exact hF i (by omega)) (fun e => ?_) (fun e => nm_r (nI_1 i) (ih (i + 1) f (by omega) (by omega) ?_))⟩)
    · rw [if_pos e] at hp
      exact hp
    · rw [if_neg e] at hp
      exact hp
theorem cq_x_slotHolding {a : Int64} {F : Nat → Bool} (hF : ∀ i, i < 64 → (cq_G (cq_lv z) (cq_id z) i = a ↔ F i = true)) (hp : post (cq_oI (cq_fnd F 0 64))) : wpX_slotHolding post (cq_X c l n p g m z op) a :=
  Exists.intro 65 (cq_x_sh hF 64 0 65 (by omega) (by omega) hp)
def cq_at (z : cq_Z) (d i : Nat) : Bool := cq_lv z i && (cq_id z i == d)
theorem cq_F0 (hD : cq_D T' B' n p z) (hT' : T' < 2 ^ 31) (i : Nat) : cq_G (cq_lv z) (cq_id z) i = 0 ↔ cq_fr z i = true := by
  unfold cq_fr
  cases e : cq_lv z i with
  | false =>
    rw [cq_G_f e]
    simp
  | true =>
    obtain ⟨_, _, a, b, _⟩ := hD.2.2.2 i e
    have := hD.1.2
    rw [cq_G_t e, show (0 : Int64) = lN 0 from rfl, lN_eq (by omega) (by decide)]
    simp
    omega
theorem cq_Fd (hD : cq_D T' B' n p z) (hT' : T' < 2 ^ 31) {d : Nat} (h0 : 0 < d) (hd : d < 2 ^ 31) (i : Nat) : cq_G (cq_lv z) (cq_id z) i = lN d ↔ cq_at z d i = true := by
  unfold cq_at
  cases e : cq_lv z i with
  | false =>
    rw [cq_G_f e, show (0 : Int64) = lN 0 from rfl, lN_eq (by decide) hd]
    simp
    omega
  | true =>
    obtain ⟨_, _, a, b, _⟩ := hD.2.2.2 i e
    have := hD.1.2
    rw [cq_G_t e, lN_eq (by omega) hd]
    simp
theorem cq_x_slotOf (hD : cq_D T' B' n p z) (hT' : T' < 2 ^ 31) {d : Nat} (h0 : 0 < d) (hd : d < 2 ^ 31) (hp : post (cq_oI (cq_fnd (cq_at z d) 0 64))) : wpX_slotOf post (cq_X c l n p g m z op) (nI d) := by
  refine br_t (by rw [show (0 : Int32) = nI 0 from rfl]; exact nI_lt h0 hd) ?_
  rw [nI_l hd]
  exact cq_x_slotHolding (fun i _ => cq_Fd hD hT' h0 hd i) hp
theorem cq_x_ed (hn : n ≤ 16) (h64 : l ≤ 64) (hD : cq_D T' B' n p z) (hB : B' < 2 ^ 30) {x : Nat} (hx : x < n) {post : Int64 → Prop} (hp : post (lN (cq_e l z x))) : ∀ d k f, k + d = 4 → d < f → wX_eligibleDemand_5 post (nI x) (nI c) (nI l) (nI n) (lN (cq_t z)) (cq_P p) (cq_A (cq_cc p n)) (cq_A g) (cq_A m) (cq_A (cq_u p z)) (cq_A (cq_r z)) (cq_A (cq_h z)) (cq_G (cq_lv z) (cq_id z)) (cq_A (cq_cl z)) (cq_A (cq_cu z)) op f (lN (cq_E (cq_r z) (cq_h z) l x k)) (nI k) := by
  intro d
  induction d with
  | zero =>
    intro k f hk hf
    obtain ⟨f, rfl⟩ : ∃ k, f = k + 1 := ⟨f - 1, by omega⟩
    have e : k = 4 := by omega
    subst e
    exact pk_le 4 4 (fun _ => hp) (fun h => by omega)
  | succ d ih =>
    intro k f hk hf
    obtain ⟨f, rfl⟩ : ∃ k, f = k + 1 := ⟨f - 1, by omega⟩
    have ih' := ih (k + 1) f (by omega) (by omega)
    rw [cq_E_s] at ih'
    have hh : cq_h z (x * 4 + k) ≤ 64 := cq_hs_le _ _ _ _
    have hr := hD.2.1 (x * 4 + k)
    have ix : vp_in (nI x * 4 + nI k) 64 := by rw [cq_ix]; exact vp_in_nI (by omega) (by omega)
    refine pk_le 4 k (fun h => by omega) (fun _ => ⟨ix, nm_r (by rw [cq_ix, cq_rA _ (by omega)]) ⟨ix, ?_⟩⟩)
    by_cases hl : l ≤ cq_h z (x * 4 + k)
    · refine nm_r (e' := nI l - nI (cq_h z (x * 4 + k))) (by rw [cq_ix, cq_rA _ (by omega)]) (br_t ((cq_s1 h64 hh).mpr hl) (nm_r (nI_1 k) ?_))
      rw [show min (cq_r z (x * 4 + k)) (l - cq_h z (x * 4 + k)) = 0 by omega] at ih'
      exact ih'
    · refine nm_r (e' := nI (l - cq_h z (x * 4 + k))) (by rw [cq_ix, cq_rA _ (by omega), pk_sub (by omega)]) (br_f (nI_nle (by omega) (by omega)) (pk_le (l - cq_h z (x * 4 + k)) (cq_r z (x * 4 + k)) (fun hle => nm_r (by rw [nI_l (by omega), lN_add]) (nm_r (nI_1 k) ?_)) (fun hle => nm_r (by rw [nI_l (by omega), lN_add]) (nm_r (nI_1 k) ?_))))
      · rw [show min (cq_r z (x * 4 + k)) (l - cq_h z (x * 4 + k)) = l - cq_h z (x * 4 + k) by omega] at ih'
        exact ih'
      · rw [show min (cq_r z (x * 4 + k)) (l - cq_h z (x * 4 + k)) = cq_r z (x * 4 + k) by omega] at ih'
        exact ih'
theorem cq_x_eligibleDemand (hn : n ≤ 16) (h64 : l ≤ 64) (hD : cq_D T' B' n p z) (hB : B' < 2 ^ 30) {x : Nat} (hx : x < n) {post : Int64 → Prop} (hp : post (lN (cq_e l z x))) : wpX_eligibleDemand post (cq_X c l n p g m z op) (nI x) :=
  Exists.intro 5 (cq_x_ed hn h64 hD hB hx hp 4 0 5 (by omega) (by omega))
theorem cq_x_rm (hJ : cq_J c l n p g m) : ∀ d x i f, x < d → x < n → x + i ≤ 15 → d < f → post (cq_bI (cq_rm p m (cq_u p z) x)) → wX_pathHasRoom_4 post (nI c) (nI l) (nI n) (lN (cq_t z)) (cq_P p) (cq_A (cq_cc p n)) (cq_A g) (cq_A m) (cq_A (cq_u p z)) (cq_A (cq_r z)) (cq_A (cq_h z)) (cq_G (cq_lv z) (cq_id z)) (cq_A (cq_cl z)) (cq_A (cq_cu z)) op f (nI x) (nI i) := by
  obtain ⟨⟨h1, h2, h3, h4, hn⟩, hT, hg, hm, h0⟩ := hJ
  intro d
  induction d with
  | zero =>
    intro x i f h
    omega
  | succ d ih =>
    intro x i f hd hx hi hf hp
    obtain ⟨f, rfl⟩ : ∃ k, f = k + 1 := ⟨f - 1, by omega⟩
    have hu : cq_u p z x ≤ 64 := cq_us_le _ _ _ _
    have hmx := hm x
    have ix : vp_in (nI x) 16 := vp_in_nI (by omega) (by omega)
    refine pk_le 16 i (fun h => by omega) (fun _ => br_f (cq_m1 (by omega)) ⟨ix, ix, cq_if (d := cq_u p z x < m x) (by rw [cq_rA m (by omega), cq_rA (cq_u p z) (by omega)]; exact nI_ltI (by omega) (by omega)) (fun e => ⟨ix, ?_⟩) (fun e => ?_)⟩)
    · by_cases h0 : x = 0
      · subst h0
        refine nm_r (cq_rP0 p) (nm_r (nI_1 i) ?_)
        obtain ⟨f, rfl⟩ : ∃ k, f = k + 1 := ⟨f - 1, by omega⟩
        rw [cq_rm_0 e] at hp
        exact pk_le 16 (i + 1) (fun _ => hp) (fun _ => br_t rfl hp)
      · have hpx := hT x (by omega) hx
        rw [cq_rm_p hT h0 hx e] at hp
        exact nm_r (cq_rPp p h0 (by omega)) (nm_r (nI_1 i) (ih (p x) (i + 1) f (by omega) (by omega) (by omega) (by omega) hp))
    · rw [cq_rm_f hT hx (by omega)] at hp
      exact hp
theorem cq_x_pathHasRoom (hJ : cq_J c l n p g m) {x : Nat} (hx : x < n) (hp : post (cq_bI (cq_rm p m (cq_u p z) x))) : wpX_pathHasRoom post (cq_X c l n p g m z op) (nI x) :=
  Exists.intro (x + 2) (cq_x_rm hJ (x + 1) x 0 (x + 2) (by omega) hx (by have := hJ.1; omega) (by omega) hp)
theorem cq_x_isLighter (hJ : cq_J c l n p g m) {a b : Nat} (ha : a < n) (hb : b < n) (hp : post (cq_bI (cq_lt g (cq_u p z) a b))) : wpX_isLighter post (cq_X c l n p g m z op) (nI a) (nI b) := by
  obtain ⟨⟨h1, h2, h3, h4, hn⟩, hT, hg, hm, h0⟩ := hJ
  have ga := hg a
  have gb := hg b
  have ua : cq_u p z a ≤ 64 := cq_us_le _ _ _ _
  have ub : cq_u p z b ≤ 64 := cq_us_le _ _ _ _
  have ia : vp_in (nI a) 16 := vp_in_nI (by omega) (by omega)
  have ib : vp_in (nI b) 16 := vp_in_nI (by omega) (by omega)
  have ga0 : cq_A g (nI a).toNatClampNeg ≤ 0 ↔ g a = 0 := cq_g0 (by omega) (by omega)
  have gb0 : cq_A g (nI b).toNatClampNeg ≤ 0 ↔ g b = 0 := cq_g0 (by omega) (by omega)
  have ga1 : cq_A g (nI a).toNatClampNeg = 0 ↔ g a = 0 := cq_g1 (by omega) (by omega)
  have gb1 : cq_A g (nI b).toNatClampNeg = 0 ↔ g b = 0 := cq_g1 (by omega) (by omega)
  unfold cq_lt at hp
  by_cases xa : g a = 0
  · rw [if_neg (by omega)] at hp
    refine ⟨ia, br_t (ga0.mpr xa) ⟨ia, br_t (ga1.mpr xa) ⟨ib, ?_⟩⟩⟩
    by_cases xb : g b = 0
    · rw [if_neg (by omega)] at hp
      refine br_t (gb1.mpr xb) ⟨ia, ib, cq_if (d := cq_u p z b ≤ cq_u p z a) (by rw [cq_rA (cq_u p z) (by omega), cq_rA (cq_u p z) (by omega)]; exact nI_leI (by omega) (by omega)) (fun h => ?_) (fun h => ?_)⟩
      · rw [show decide (cq_u p z a < cq_u p z b) = false by simpa using h] at hp
        exact hp
      · rw [show decide (cq_u p z a < cq_u p z b) = true by simpa using h] at hp
        exact hp
    · rw [if_pos (by omega)] at hp
      exact br_f (fun w => xb (gb1.mp w)) ⟨ia, br_t (ga0.mpr xa) hp⟩
  · rw [if_pos (by omega)] at hp
    by_cases xb : g b = 0
    · rw [if_neg (by omega)] at hp
      exact ⟨ia, br_f (fun w => xa (ga0.mp w)) ⟨ib, br_t (gb0.mpr xb) ⟨ia, br_f (fun w => xa (ga1.mp w)) ⟨ia, br_f (fun w => xa (ga0.mp w)) hp⟩⟩⟩⟩
    · rw [if_pos (by omega)] at hp
      have m1 : cq_u p z b * g a ≤ 64 * 64 := Nat.mul_le_mul ub ga
      have m2 : cq_u p z a * g b ≤ 64 * 64 := Nat.mul_le_mul ua gb
      refine ⟨ia, br_f (fun w => xa (ga0.mp w)) ⟨ib, br_f (fun w => xb (gb0.mp w)) ⟨ia, ib, ib, ia, cq_if (d := cq_u p z b * g a ≤ cq_u p z a * g b) (by rw [cq_rA g (by omega), cq_rA g (by omega), cq_rA (cq_u p z) (by omega), cq_rA (cq_u p z) (by omega), pk_mul, pk_mul]; exact nI_leI (by omega) (by omega)) (fun h => ?_) (fun h => ?_)⟩⟩⟩
      · rw [show decide (cq_u p z a * g b < cq_u p z b * g a) = false by simpa using h] at hp
        exact hp
      · rw [show decide (cq_u p z a * g b < cq_u p z b * g a) = true by simpa using h] at hp
        exact hp
end
