/-! the reference's readers -/
abbrev cq_Y (c l n : Nat) (p g m : Nat → Nat) (z : cq_Z) : SY := (nI c, nI l, nI n, nI (cq_t z), cq_P p, cq_A g, cq_A m, cq_A (cq_r z), cq_A (cq_id z), cq_A (cq_cl z), cq_A (cq_cu z), cq_V (cq_lv z))
section
variable {c l n : Nat} {p g m : Nat → Nat} {z : cq_Z} {post : Int32 → Prop} {A B : Prop} {T' B' : Nat}
theorem cq_vb {lv : Nat → Bool} {x : Nat} (h : x < 2 ^ 31) (f : lv x = false → A) (k : lv x = true → B) : (cq_V lv (nI x).toNatClampNeg = 0 → A) ∧ (¬ cq_V lv (nI x).toNatClampNeg = 0 → B) := by
  rw [cq_rV lv h]
  exact cq_b0 f k
theorem cq_pe (hT : cq_T p n) (hn : n ≤ 16) {j q : Nat} (h0 : j ≠ 0) (hj : j < n) (hq : q < 2 ^ 31) : cq_P p (nI j).toNatClampNeg = nI q ↔ p j = q := by
  have := hT j (by omega) hj
  rw [cq_rPp p h0 (by omega)]
  exact nI_eq (by omega) hq
theorem cq_g0 {f : Nat → Nat} {x : Nat} (h : x < 2 ^ 31) (hf : f x < 2 ^ 31) : cq_A f (nI x).toNatClampNeg ≤ 0 ↔ f x = 0 := by
  rw [cq_rA f h, show (0 : Int32) = nI 0 from rfl, nI_leI hf (by decide)]
  omega
theorem cq_g1 {f : Nat → Nat} {x : Nat} (h : x < 2 ^ 31) (hf : f x < 2 ^ 31) : cq_A f (nI x).toNatClampNeg = 0 ↔ f x = 0 := by
  rw [cq_rA f h, show (0 : Int32) = nI 0 from rfl, nI_eq hf (by decide)]
theorem cq_y_un (hT : cq_T p n) (hn : n ≤ 16) {a : Nat} (ha : a < 2 ^ 31) : ∀ d x i f, x < d → x < n → x + i ≤ 16 → d < f → post (cq_bI (cq_un p x a)) → wY_isUnder_5 post (nI a) (nI c) (nI l) (nI n) (nI (cq_t z)) (cq_P p) (cq_A g) (cq_A m) (cq_A (cq_r z)) (cq_A (cq_id z)) (cq_A (cq_cl z)) (cq_A (cq_cu z)) (cq_V (cq_lv z)) f (nI x) (nI i) := by
  intro d
  induction d with
  | zero =>
    intro x i f h
    omega
  | succ d ih =>
    intro x i f hd hx hi hf hp
    obtain ⟨f, rfl⟩ : ∃ k, f = k + 1 := ⟨f - 1, by omega⟩
    refine pk_le 17 i (fun h => by omega) (fun _ => br_f (nI_pos (by omega)) (pk_le 16 x (fun h => by omega) (fun _ => pk_eq x a (fun e => ?_) (fun e => ⟨vp_in_nI (by omega) (by omega), ?_⟩))))
    · subst e
      rw [cq_un_self] at hp
      exact hp
    · by_cases h0 : x = 0
      · subst h0
        refine nm_r (cq_rP0 p) (nm_r (nI_1 i) ?_)
        obtain ⟨f, rfl⟩ : ∃ k, f = k + 1 := ⟨f - 1, by omega⟩
        rw [cq_un_00, show ((0 : Nat) == a) = false by simpa using e] at hp
        exact pk_le 17 (i + 1) (fun _ => hp) (fun _ => br_t (by decide) hp)
      · have hpx := hT x (by omega) hx
        rw [cq_un_ne hT h0 hx e] at hp
        exact nm_r (cq_rPp p h0 (by omega)) (nm_r (nI_1 i) (ih (p x) (i + 1) f (by omega) (by omega) (by omega) (by omega) hp))
theorem cq_y_isUnder (hT : cq_T p n) (hn : n ≤ 16) {x a : Nat} (hx : x < n) (ha : a < 2 ^ 31) (hp : post (cq_bI (cq_un p x a))) : wpY_isUnder post (cq_Y c l n p g m z) (nI x) (nI a) :=
  Exists.intro (x + 2) (cq_y_un hT hn ha (x + 1) x 0 (x + 2) (by omega) hx (by omega) (by omega) hp)
def cq_hc (p : Nat → Nat) (n q : Nat) : Bool := !(decide (cq_cc p n q = 0))
theorem cq_hc_f {q : Nat} (h : cq_cc p n q = 0) : cq_hc p n q = false := by simp [cq_hc, h]
theorem cq_hc_t {q : Nat} (h : cq_cc p n q ≠ 0) : cq_hc p n q = true := by simp [cq_hc, h]
theorem cq_y_hc (hT : cq_T p n) (hn : n ≤ 16) {q : Nat} (hq : q < 2 ^ 31) (hp : post (cq_bI (cq_hc p n q))) : ∀ d j f, j + d = n → 1 ≤ j → d < f → (∀ i, i ≠ 0 → i < j → p i ≠ q) → wY_hasChildren_2 post (nI q) (nI c) (nI l) (nI n) (nI (cq_t z)) (cq_P p) (cq_A g) (cq_A m) (cq_A (cq_r z)) (cq_A (cq_id z)) (cq_A (cq_cl z)) (cq_A (cq_cu z)) (cq_V (cq_lv z)) f (nI j) := by
  intro d
  induction d with
  | zero =>
    intro j f hj h1 hf hh
    obtain ⟨f, rfl⟩ : ∃ k, f = k + 1 := ⟨f - 1, by omega⟩
    have e : cq_cc p n q = 0 := cq_cnt_0 fun i hi => by
      by_cases h0 : i = 0
      · simp [h0]
      · simp [h0, hh i h0 (by omega)]
    rw [cq_hc_f e] at hp
    exact pk_le n j (fun _ => hp) (fun h => by omega)
  | succ d ih =>
    intro j f hj h1 hf hh
    obtain ⟨f, rfl⟩ : ∃ k, f = k + 1 := ⟨f - 1, by omega⟩
    refine pk_le n j (fun h => by omega) (fun _ => ⟨vp_in_nI (by omega) (by omega), cq_if (cq_pe hT hn (by omega) (by omega) hq) (fun e => ?_) (fun e => nm_r (nI_1 j) (ih (j + 1) f (by omega) (by omega) (by omega) (fun i h0 hi => ?_)))⟩)
    · have : cq_cc p n q ≠ 0 := fun z => cq_cc_0 z (j := j) (by omega) (by omega) e
      rw [cq_hc_t this] at hp
      exact hp
    · by_cases w : i = j
      · subst w
        exact e
      · exact hh i h0 (by omega)
theorem cq_y_hasChildren (hT : cq_T p n) (hn : n ≤ 16) (h1 : 1 ≤ n) {q : Nat} (hq : q < 2 ^ 31) (hp : post (cq_bI (cq_hc p n q))) : wpY_hasChildren post (cq_Y c l n p g m z) (nI q) :=
  Exists.intro (n + 1) (cq_y_hc hT hn hq hp (n - 1) 1 (n + 1) (by omega) (by omega) (by omega) (fun i h0 hi => by omega))
theorem cq_y_us (hT : cq_T p n) (hn : n ≤ 16) (hl : ∀ i, cq_lv z i = true → cq_cl z i < n) {q : Nat} (hq : q < 2 ^ 31) (hp : post (nI (cq_u p z q))) : ∀ d i f, i + d = 64 → d < f → wY_usedOf_4 post (nI q) (nI c) (nI l) (nI n) (nI (cq_t z)) (cq_P p) (cq_A g) (cq_A m) (cq_A (cq_r z)) (cq_A (cq_id z)) (cq_A (cq_cl z)) (cq_A (cq_cu z)) (cq_V (cq_lv z)) f (nI (cq_cnt (fun i => cq_lv z i && cq_un p (cq_cl z i) q) i)) (nI i) := by
  intro d
  induction d with
  | zero =>
    intro i f hi hf
    obtain ⟨f, rfl⟩ : ∃ k, f = k + 1 := ⟨f - 1, by omega⟩
    have e : i = 64 := by omega
    subst e
    exact pk_le 64 64 (fun _ => hp) (fun h => by omega)
  | succ d ih =>
    intro i f hi hf
    obtain ⟨f, rfl⟩ : ∃ k, f = k + 1 := ⟨f - 1, by omega⟩
    have ih' := ih (i + 1) f (by omega) (by omega)
    rw [cq_cnt_s] at ih'
    refine pk_le 64 i (fun h => by omega) (fun _ => ⟨vp_in_nI (by omega) (by omega), cq_vb (by omega) (fun e => nm_r (nI_1 i) ?_) (fun e => ⟨vp_in_nI (by omega) (by omega), ?_⟩)⟩)
    · rw [e] at ih'
      exact ih'
    · rw [cq_rA (cq_cl z) (by omega)]
      refine cq_y_isUnder hT hn (hl i e) hq (cq_b0 (fun e2 => nm_r (nI_1 i) ?_) (fun e2 => nm_r (nI_1 _) (nm_r (nI_1 i) ?_)))
      · rw [e, e2] at ih'
        exact ih'
      · rw [e, e2] at ih'
        exact ih'
theorem cq_y_usedOf (hT : cq_T p n) (hn : n ≤ 16) (hD : cq_D T' B' n p z) {q : Nat} (hq : q < 2 ^ 31) (hp : post (nI (cq_u p z q))) : wpY_usedOf post (cq_Y c l n p g m z) (nI q) :=
  Exists.intro 65 (cq_y_us hT hn (fun i hi => (hD.2.2.2 i hi).1) hq hp 64 0 65 (by omega) (by omega))
theorem cq_y_hs (hl : ∀ i, cq_lv z i = true → cq_cl z i < 16 ∧ cq_cu z i < 4) {x k : Nat} (hx : x < 16) (hk : k < 4) (hp : post (nI (cq_h z (x * 4 + k)))) : ∀ d i f, i + d = 64 → d < f → wY_userUsedOf_5 post (nI x) (nI k) (nI c) (nI l) (nI n) (nI (cq_t z)) (cq_P p) (cq_A g) (cq_A m) (cq_A (cq_r z)) (cq_A (cq_id z)) (cq_A (cq_cl z)) (cq_A (cq_cu z)) (cq_V (cq_lv z)) f (nI (cq_cnt (fun i => cq_lv z i && (cq_cl z i * 4 + cq_cu z i == x * 4 + k)) i)) (nI i) := by
  intro d
  induction d with
  | zero =>
    intro i f hi hf
    obtain ⟨f, rfl⟩ : ∃ k, f = k + 1 := ⟨f - 1, by omega⟩
    have e : i = 64 := by omega
    subst e
    exact pk_le 64 64 (fun _ => hp) (fun h => by omega)
  | succ d ih =>
    intro i f hi hf
    obtain ⟨f, rfl⟩ : ∃ k, f = k + 1 := ⟨f - 1, by omega⟩
    have ih' := ih (i + 1) f (by omega) (by omega)
    rw [cq_cnt_s] at ih'
    refine pk_le 64 i (fun h => by omega) (fun _ => ⟨vp_in_nI (by omega) (by omega), cq_vb (by omega) (fun e => nm_r (nI_1 i) ?_) (fun e => ⟨vp_in_nI (by omega) (by omega), ?_⟩)⟩)
    · rw [e] at ih'
      exact ih'
    · obtain ⟨a, b⟩ := hl i e
      refine cq_if (d := cq_cl z i = x) (by rw [cq_rA (cq_cl z) (by omega)]; exact nI_eq (by omega) (by omega)) (fun e2 => ⟨vp_in_nI (by omega) (by omega), cq_if (d := cq_cu z i = k) (by rw [cq_rA (cq_cu z) (by omega)]; exact nI_eq (by omega) (by omega)) (fun e3 => nm_r (nI_1 _) (nm_r (nI_1 i) ?_)) (fun e3 => nm_r (nI_1 i) ?_)⟩) (fun e2 => nm_r (nI_1 i) ?_)
      · rw [e, show (cq_cl z i * 4 + cq_cu z i == x * 4 + k) = true by simp; omega] at ih'
        exact ih'
      · rw [e, show (cq_cl z i * 4 + cq_cu z i == x * 4 + k) = false by simp; omega] at ih'
        exact ih'
      · rw [e, show (cq_cl z i * 4 + cq_cu z i == x * 4 + k) = false by simp; omega] at ih'
        exact ih'
theorem cq_y_userUsedOf (hn : n ≤ 16) (hD : cq_D T' B' n p z) {x k : Nat} (hx : x < n) (hk : k < 4) (hp : post (nI (cq_h z (x * 4 + k)))) : wpY_userUsedOf post (cq_Y c l n p g m z) (nI x) (nI k) :=
  Exists.intro 65 (cq_y_hs (fun i hi => ⟨Nat.lt_of_lt_of_le (hD.2.2.2 i hi).1 hn, (hD.2.2.2 i hi).2.1⟩) (by omega) hk hp 64 0 65 (by omega) (by omega))
theorem cq_y_e (hn : n ≤ 16) (h64 : l ≤ 64) (hD : cq_D T' B' n p z) (hB : B' < 2 ^ 30) {x : Nat} (hx : x < n) (hp : post (nI (cq_e l z x))) : ∀ d k f, k + d = 4 → d < f → wY_eOf_4 post (nI x) (nI c) (nI l) (nI n) (nI (cq_t z)) (cq_P p) (cq_A g) (cq_A m) (cq_A (cq_r z)) (cq_A (cq_id z)) (cq_A (cq_cl z)) (cq_A (cq_cu z)) (cq_V (cq_lv z)) f (nI (cq_E (cq_r z) (cq_h z) l x k)) (nI k) := by
  intro d
  induction d with
  | zero =>
    intro k f hk hf
    obtain ⟨f, rfl⟩ : ∃ k, f = k + 1 := ⟨f - 1, by omega⟩
    have e : k = 4 := by omega
    subst e
    exact pk_le 4 4 (fun _ => hp) (fun h => by omega)
  | succ d ih =>
    intro k f hk hf
    obtain ⟨f, rfl⟩ : ∃ k, f = k + 1 := ⟨f - 1, by omega⟩
    have ih' := ih (k + 1) f (by omega) (by omega)
    rw [cq_E_s] at ih'
    have hh : cq_h z (x * 4 + k) ≤ 64 := cq_hs_le _ _ _ _
    have hr := hD.2.1 (x * 4 + k)
    refine pk_le 4 k (fun h => by omega) (fun _ => cq_y_userUsedOf hn hD hx (by omega) ?_)
    by_cases hl : l ≤ cq_h z (x * 4 + k)
    · refine nm_e (br_t ((cq_s1 h64 hh).mpr hl) (nm_r (nI_1 k) ?_))
      rw [show min (cq_r z (x * 4 + k)) (l - cq_h z (x * 4 + k)) = 0 by omega] at ih'
      exact ih'
    · refine nm_r (pk_sub (by omega)) (br_f (nI_nle (by omega) (by omega)) ⟨by rw [cq_ix]; exact vp_in_nI (by omega) (by omega), nm_r (by rw [cq_ix, cq_rA _ (by omega)]) (pk_le (l - cq_h z (x * 4 + k)) (cq_r z (x * 4 + k)) (fun hle => nm_r (nI_add _ _) (nm_r (nI_1 k) ?_)) (fun hle => nm_r (nI_add _ _) (nm_r (nI_1 k) ?_)))⟩)
      · rw [show min (cq_r z (x * 4 + k)) (l - cq_h z (x * 4 + k)) = l - cq_h z (x * 4 + k) by omega] at ih'
        exact ih'
      · rw [show min (cq_r z (x * 4 + k)) (l - cq_h z (x * 4 + k)) = cq_r z (x * 4 + k) by omega] at ih'
        exact ih'
theorem cq_y_eOf (hn : n ≤ 16) (h64 : l ≤ 64) (hD : cq_D T' B' n p z) (hB : B' < 2 ^ 30) {x : Nat} (hx : x < n) (hp : post (nI (cq_e l z x))) : wpY_eOf post (cq_Y c l n p g m z) (nI x) :=
  Exists.intro 5 (cq_y_e hn h64 hD hB hx hp 4 0 5 (by omega) (by omega))
end
