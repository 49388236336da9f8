/-! the reference: eligible, open, lighter, the lightest child -/
section
variable {c l n : Nat} {p g m : Nat → Nat} {z : cq_Z} {post : Int32 → Prop} {A B : Prop} {T' B' : Nat}
theorem cq_rm_f {u : Nat → Nat} (hT : cq_T p n) {x : Nat} (hx : x < n) (h : m x ≤ u x) : cq_rm p m u x = false := by
  unfold cq_rm
  rw [cq_ex_st hT hx (by simpa using h)]
  rfl
theorem cq_rm_0 {u : Nat → Nat} (h : u 0 < m 0) : cq_rm p m u 0 = true := by
  unfold cq_rm
  rw [cq_ex_0]
  simpa using h
theorem cq_rm_p {u : Nat → Nat} (hT : cq_T p n) {x : Nat} (h0 : x ≠ 0) (hx : x < n) (h : u x < m x) : cq_rm p m u x = cq_rm p m u (p x) := by
  unfold cq_rm
  rw [cq_ex_p hT _ h0 hx, show decide (m x ≤ u x) = false by simpa using h, Bool.false_or]
theorem cq_y_rm (hJ : cq_J c l n p g m) (hD : cq_D T' B' n p z) : ∀ d x i f, x < d → x < n → x + i ≤ 16 → d < f → post (cq_bI (cq_rm p m (cq_u p z) x)) → wY_eligibleLeaf_24 post (nI c) (nI l) (nI n) (nI (cq_t z)) (cq_P p) (cq_A g) (cq_A m) (cq_A (cq_r z)) (cq_A (cq_id z)) (cq_A (cq_cl z)) (cq_A (cq_cu z)) (cq_V (cq_lv z)) f (nI x) (nI i) := by
  obtain ⟨⟨h1, h2, h3, h4, hn⟩, hT, hg, hm, h0⟩ := hJ
  intro d
  induction d with
  | zero =>
    intro x i f h
    omega
  | succ d ih =>
    intro x i f hd hx hi hf hp
    obtain ⟨f, rfl⟩ : ∃ k, f = k + 1 := ⟨f - 1, by omega⟩
    have hu : cq_u p z x ≤ 64 := cq_us_le _ _ _ _
    have hmx := hm x
    refine pk_le 17 i (fun h => by omega) (fun _ => br_f (nI_pos (by omega)) (pk_le 16 x (fun h => by omega) (fun _ => cq_y_usedOf hT hn hD (by omega) ⟨vp_in_nI (by omega) (by omega), cq_if (d := cq_u p z x < m x) (by rw [cq_rA m (by omega)]; exact nI_ltI (by omega) (by omega)) (fun e => ⟨vp_in_nI (by omega) (by omega), ?_⟩) (fun e => ?_)⟩)))
    · by_cases h0 : x = 0
      · subst h0
        refine nm_r (cq_rP0 p) (nm_r (nI_1 i) ?_)
        obtain ⟨f, rfl⟩ : ∃ k, f = k + 1 := ⟨f - 1, by omega⟩
        rw [cq_rm_0 e] at hp
        exact pk_le 17 (i + 1) (fun _ => hp) (fun _ => br_t (by decide) hp)
      · have hpx := hT x (by omega) hx
        rw [cq_rm_p hT h0 hx e] at hp
        exact nm_r (cq_rPp p h0 (by omega)) (nm_r (nI_1 i) (ih (p x) (i + 1) f (by omega) (by omega) (by omega) (by omega) hp))
    · rw [cq_rm_f hT hx (by omega)] at hp
      exact hp
theorem cq_e_le (l : Nat) (z : cq_Z) (x : Nat) : cq_e l z x ≤ l * 4 := cq_E_le _ _ _ _ _
theorem cq_y_eligibleLeaf (hJ : cq_J c l n p g m) (hD : cq_D T' B' n p z) (hB : B' < 2 ^ 30) {x : Nat} (hx : x < n) (hp : post (cq_bI (cq_le l n p m z x))) : wpY_eligibleLeaf post (cq_Y c l n p g m z) (nI x) := by
  have hJ' := hJ
  obtain ⟨⟨h1, h2, h3, h4, hn⟩, hT, hg, hm, h0⟩ := hJ
  have he := cq_e_le l z x
  have hle : cq_le l n p m z x = (decide (cq_cc p n x = 0) && decide (0 < cq_e l z x) && cq_rm p m (cq_u p z) x) := rfl
  refine cq_y_hasChildren hT hn h4 (by omega) (cq_b0 (fun e => cq_y_eOf hn h3 hD hB hx (pk_lt 0 (cq_e l z x) (fun hl => Exists.intro (x + 2) (cq_y_rm hJ' hD (x + 1) x 0 (x + 2) (by omega) hx (by omega) (by omega) ?_)) (fun hl => ?_))) (fun e => ?_))
  · unfold cq_hc at e
    rw [hle, show decide (cq_cc p n x = 0) = true by simpa using e, show decide (0 < cq_e l z x) = true by simpa using hl] at hp
    exact hp
  · rw [hle, show decide (0 < cq_e l z x) = false by simp; omega, Bool.and_false, Bool.false_and] at hp
    exact hp
  · unfold cq_hc at e
    rw [hle, show decide (cq_cc p n x = 0) = false by simpa using e, Bool.false_and, Bool.false_and] at hp
    exact hp
theorem cq_y_op (hJ : cq_J c l n p g m) (hD : cq_D T' B' n p z) (hB : B' < 2 ^ 30) {q : Nat} (hq : q < 2 ^ 31) (hp : post (cq_bI (cq_on l n p m z q))) : ∀ d i f, i + d = n → d < f → (∀ j, j < i → (cq_un p j q && cq_le l n p m z j) = false) → wY_isOpen_2 post (nI q) (nI c) (nI l) (nI n) (nI (cq_t z)) (cq_P p) (cq_A g) (cq_A m) (cq_A (cq_r z)) (cq_A (cq_id z)) (cq_A (cq_cl z)) (cq_A (cq_cu z)) (cq_V (cq_lv z)) f (nI i) := by
  have hJ' := hJ
  obtain ⟨⟨h1, h2, h3, h4, hn⟩, hT, hg, hm, h0⟩ := hJ
  intro d
  induction d with
  | zero =>
    intro i f hi hf hh
    obtain ⟨f, rfl⟩ : ∃ k, f = k + 1 := ⟨f - 1, by omega⟩
    have e : cq_on l n p m z q = false := cq_any_f fun j hj => hh j (by omega)
    rw [e] at hp
    exact pk_le n i (fun _ => hp) (fun h => by omega)
  | succ d ih =>
    intro i f hi hf hh
    obtain ⟨f, rfl⟩ : ∃ k, f = k + 1 := ⟨f - 1, by omega⟩
    have nxt : (cq_un p i q && cq_le l n p m z i) = false → wY_isOpen_2 post (nI q) (nI c) (nI l) (nI n) (nI (cq_t z)) (cq_P p) (cq_A g) (cq_A m) (cq_A (cq_r z)) (cq_A (cq_id z)) (cq_A (cq_cl z)) (cq_A (cq_cu z)) (cq_V (cq_lv z)) f (nI (i + 1)) := fun e => ih (i + 1) f (by omega) (by omega) (fun j hj => by
      by_cases w : j = i
      · subst w
        exact e
      · exact hh j (by omega))
    refine pk_le n i (fun h => by omega) (fun _ => cq_y_isUnder hT hn (by omega) hq (cq_b0 (fun e => nm_r (nI_1 i) (nxt (by rw [e]; rfl))) (fun e => cq_y_eligibleLeaf hJ' hD hB (by omega) (cq_b0 (fun e2 => nm_r (nI_1 i) (nxt (by rw [e2, Bool.and_false]))) (fun e2 => ?_)))))
    have e3 : cq_on l n p m z q = true := cq_any_iff.mpr ⟨i, by omega, by
      show (cq_un p i q && cq_le l n p m z i) = true
      rw [e, e2]
      rfl⟩
    rw [e3] at hp
    exact hp
theorem cq_y_isOpen (hJ : cq_J c l n p g m) (hD : cq_D T' B' n p z) (hB : B' < 2 ^ 30) {q : Nat} (hq : q < 2 ^ 31) (hp : post (cq_bI (cq_on l n p m z q))) : wpY_isOpen post (cq_Y c l n p g m z) (nI q) :=
  Exists.intro (n + 1) (cq_y_op hJ hD hB hq hp n 0 (n + 1) (by omega) (by omega) (fun j hj => by omega))
theorem cq_y_lighter (hJ : cq_J c l n p g m) (hD : cq_D T' B' n p z) {a b : Nat} (ha : a < n) (hb : b < n) (hp : post (cq_bI (cq_lt g (cq_u p z) a b))) : wpY_lighter post (cq_Y c l n p g m z) (nI a) (nI b) := by
  obtain ⟨⟨h1, h2, h3, h4, hn⟩, hT, hg, hm, h0⟩ := hJ
  have ga := hg a
  have gb := hg b
  have ua : cq_u p z a ≤ 64 := cq_us_le _ _ _ _
  have ub : cq_u p z b ≤ 64 := cq_us_le _ _ _ _
  have ia : vp_in (nI a) 16 := vp_in_nI (by omega) (by omega)
  have ib : vp_in (nI b) 16 := vp_in_nI (by omega) (by omega)
  have ga0 : cq_A g (nI a).toNatClampNeg ≤ 0 ↔ g a = 0 := cq_g0 (by omega) (by omega)
  have gb0 : cq_A g (nI b).toNatClampNeg ≤ 0 ↔ g b = 0 := cq_g0 (by omega) (by omega)
  have ga1 : cq_A g (nI a).toNatClampNeg = 0 ↔ g a = 0 := cq_g1 (by omega) (by omega)
  have gb1 : cq_A g (nI b).toNatClampNeg = 0 ↔ g b = 0 := cq_g1 (by omega) (by omega)
  unfold cq_lt at hp
  by_cases xa : g a = 0
  · rw [if_neg (by omega)] at hp
    refine ⟨ia, br_t (ga0.mpr xa) ⟨ia, br_t (ga0.mpr xa) ⟨ia, br_t (ga1.mpr xa) ⟨ib, ?_⟩⟩⟩⟩
    by_cases xb : g b = 0
    · rw [if_neg (by omega)] at hp
      refine br_t (gb1.mpr xb) (cq_y_usedOf hT hn hD (by omega) (cq_y_usedOf hT hn hD (by omega) (pk_le (cq_u p z b) (cq_u p z a) (fun h => ?_) (fun h => ?_))))
      · rw [show decide (cq_u p z a < cq_u p z b) = false by simpa using h] at hp
        exact hp
      · rw [show decide (cq_u p z a < cq_u p z b) = true by simpa using h] at hp
        exact hp
    · rw [if_pos (by omega)] at hp
      exact br_f (fun w => xb (gb1.mp w)) hp
  · rw [if_pos (by omega)] at hp
    by_cases xb : g b = 0
    · rw [if_neg (by omega)] at hp
      exact ⟨ia, br_f (fun w => xa (ga0.mp w)) ⟨ib, br_t (gb1.mpr xb) hp⟩⟩
    · rw [if_pos (by omega)] at hp
      have m1 : cq_u p z b * g a ≤ 64 * 64 := Nat.mul_le_mul ub ga
      have m2 : cq_u p z a * g b ≤ 64 * 64 := Nat.mul_le_mul ua gb
      refine ⟨ia, br_f (fun w => xa (ga0.mp w)) ⟨ib, br_f (fun w => xb (gb1.mp w)) ⟨ia, br_f (fun w => xa (ga0.mp w)) ⟨ib, br_f (fun w => xb (gb0.mp w)) (cq_y_usedOf hT hn hD (by omega) ⟨ib, cq_y_usedOf hT hn hD (by omega) ⟨ia, cq_if (d := cq_u p z b * g a ≤ cq_u p z a * g b) (by rw [cq_rA g (by omega), cq_rA g (by omega), pk_mul, pk_mul]; exact nI_leI (by omega) (by omega)) (fun h => ?_) (fun h => ?_)⟩⟩)⟩⟩⟩⟩
      · rw [show decide (cq_u p z a * g b < cq_u p z b * g a) = false by simpa using h] at hp
        exact hp
      · rw [show decide (cq_u p z a * g b < cq_u p z b * g a) = true by simpa using h] at hp
        exact hp
theorem cq_oc_no {q o : Nat} (h0 : o ≠ 0) (h : p o ≠ q) : cq_oc l n p m z q o = false := by
  unfold cq_oc
  simp [h]
theorem cq_oc_op {q o : Nat} (h0 : o ≠ 0) (h : p o = q) : cq_oc l n p m z q o = cq_on l n p m z o := by
  unfold cq_oc
  simp [h0, h]
theorem cq_y_lc36 (hJ : cq_J c l n p g m) (hD : cq_D T' B' n p z) (hB : B' < 2 ^ 30) {J2 : Int32 → Prop} {q x : Nat} (hq : q < 2 ^ 31) (hx : x < n) : ∀ d o f b, o + d = n → 1 ≤ o → d < f → ((b = true ∧ ∀ o', o ≤ o' → o' < n → cq_oc l n p m z q o' = true → cq_lt g (cq_u p z) o' x = false) → post (nI x)) → (¬ (b = true ∧ ∀ o', o ≤ o' → o' < n → cq_oc l n p m z q o' = true → cq_lt g (cq_u p z) o' x = false) → J2 (nI (x + 1))) → wY_lightestOpenChild_36 post J2 (nI q) (nI x) (nI c) (nI l) (nI n) (nI (cq_t z)) (cq_P p) (cq_A g) (cq_A m) (cq_A (cq_r z)) (cq_A (cq_id z)) (cq_A (cq_cl z)) (cq_A (cq_cu z)) (cq_V (cq_lv z)) f (cq_bI b) (nI o) := by
  have hJ' := hJ
  obtain ⟨⟨h1, h2, h3, h4, hn⟩, hT, hg, hm, h0⟩ := hJ
  intro d
  induction d with
  | zero =>
    intro o f b ho h1 hf ha hb
    obtain ⟨f, rfl⟩ : ∃ k, f = k + 1 := ⟨f - 1, by omega⟩
    refine pk_le n o (fun _ => cq_b0 (fun e => nm_r (nI_1 x) (hb ?_)) (fun e => ha ⟨e, fun o' a b => by omega⟩)) (fun h => by omega)
    rw [e]
    rintro ⟨w, _⟩
    exact absurd w (by decide)
  | succ d ih =>
    intro o f b ho h1 hf ha hb
    obtain ⟨f, rfl⟩ : ∃ k, f = k + 1 := ⟨f - 1, by omega⟩
    have nxt : (cq_oc l n p m z q o = true → cq_lt g (cq_u p z) o x = false) → wY_lightestOpenChild_36 post J2 (nI q) (nI x) (nI c) (nI l) (nI n) (nI (cq_t z)) (cq_P p) (cq_A g) (cq_A m) (cq_A (cq_r z)) (cq_A (cq_id z)) (cq_A (cq_cl z)) (cq_A (cq_cu z)) (cq_V (cq_lv z)) f (cq_bI b) (nI (o + 1)) := by
      intro hk
      have key : (b = true ∧ ∀ o', o + 1 ≤ o' → o' < n → cq_oc l n p m z q o' = true → cq_lt g (cq_u p z) o' x = false) → (b = true ∧ ∀ o', o ≤ o' → o' < n → cq_oc l n p m z q o' = true → cq_lt g (cq_u p z) o' x = false) := by
        rintro ⟨w, w'⟩
        refine ⟨w, fun o' a1 a2 a3 => ?_⟩
        by_cases e : o' = o
        · subst e
          exact hk a3
        · exact w' o' (by omega) a2 a3
      exact ih (o + 1) f b (by omega) (by omega) (by omega) (fun w => ha (key w)) (fun w => hb (fun w' => w ⟨w'.1, fun o' a1 => w'.2 o' (by omega)⟩))
    refine pk_le n o (fun h => by omega) (fun _ => pk_eq o x (fun e => nm_r (nI_1 o) (nxt (fun _ => ?_))) (fun e => ⟨vp_in_nI (by omega) (by omega), cq_if (cq_pe hT hn (by omega) (by omega) hq) (fun e2 => cq_y_isOpen hJ' hD hB (by omega) (cq_b0 (fun e3 => nm_r (nI_1 o) (nxt (fun w => ?_))) (fun e3 => cq_y_lighter hJ' hD (by omega) hx (cq_b0 (fun e4 => nm_r (nI_1 o) (nxt (fun _ => e4))) (fun e4 => nm_r (nI_1 o) (ih (o + 1) f false (by omega) (by omega) (by omega) (fun w => absurd w.1 (by decide)) (fun _ => hb (fun w => ?_)))))))) (fun e2 => nm_r (nI_1 o) (nxt (fun w => ?_)))⟩))
    · subst e
      cases w : cq_lt g (cq_u p z) o o with
      | false => rfl
      | true => exact w.symm.trans (cq_lt_as g (cq_u p z) o o w)
    · rw [cq_oc_op (by omega) e2, e3] at w
      exact absurd w (by decide)
    · have := w.2 o (Nat.le_refl _) (by omega) (by rw [cq_oc_op (by omega) e2]; exact e3)
      rw [e4] at this
      exact absurd this (by decide)
    · rw [cq_oc_no (by omega) e2] at w
      exact absurd w (by decide)
theorem cq_lc_min {q b : Nat} (h : cq_lc l n p g m z q n = some b) : (∀ o, o < n → cq_oc l n p m z q o = true → cq_lt g (cq_u p z) o b = false) ∧ (∀ o, o < b → cq_oc l n p m z q o = true → cq_lt g (cq_u p z) b o = true) :=
  cq_fo_min (cq_lt_as g (cq_u p z)) (cq_lt_nt g (cq_u p z)) h
theorem cq_y_lc2 (hJ : cq_J c l n p g m) (hD : cq_D T' B' n p z) (hB : B' < 2 ^ 30) {q : Nat} (hq : q < 2 ^ 31) (hp : post (cq_oI (cq_lc l n p g m z q n))) : ∀ d x f, x + d = n → 1 ≤ x → d < f → (∀ b, cq_lc l n p g m z q n = some b → x ≤ b) → wY_lightestOpenChild_2 post (nI q) (nI c) (nI l) (nI n) (nI (cq_t z)) (cq_P p) (cq_A g) (cq_A m) (cq_A (cq_r z)) (cq_A (cq_id z)) (cq_A (cq_cl z)) (cq_A (cq_cu z)) (cq_V (cq_lv z)) f (nI x) := by
  have hJ' := hJ
  obtain ⟨⟨h1, h2, h3, h4, hn⟩, hT, hg, hm, h0⟩ := hJ
  intro d
  induction d with
  | zero =>
    intro x f hx h1 hf hh
    obtain ⟨f, rfl⟩ : ∃ k, f = k + 1 := ⟨f - 1, by omega⟩
    refine pk_le n x (fun _ => ?_) (fun h => by omega)
    cases e : cq_lc l n p g m z q n with
    | none =>
      rw [e] at hp
      exact hp
    | some b =>
      have := hh b e
      have := (cq_lc_some e).1
      omega
  | succ d ih =>
    intro x f hx h1 hf hh
    obtain ⟨f, rfl⟩ : ∃ k, f = k + 1 := ⟨f - 1, by omega⟩
    have nxt : (∀ b, cq_lc l n p g m z q n = some b → x ≠ b) → wY_lightestOpenChild_2 post (nI q) (nI c) (nI l) (nI n) (nI (cq_t z)) (cq_P p) (cq_A g) (cq_A m) (cq_A (cq_r z)) (cq_A (cq_id z)) (cq_A (cq_cl z)) (cq_A (cq_cu z)) (cq_V (cq_lv z)) f (nI (x + 1)) := by
      intro hk
      refine ih (x + 1) f (by omega) (by omega) (by omega) (fun b e => ?_)
      have a1 := hh b e
      have a2 := hk b e
      omega
    refine pk_le n x (fun h => by omega) (fun _ => ⟨vp_in_nI (by omega) (by omega), cq_if (cq_pe hT hn (by omega) (by omega) hq) (fun e => cq_y_isOpen hJ' hD hB (by omega) (cq_b0 (fun e2 => nm_r (nI_1 x) (nxt (fun b eb w => ?_))) (fun e2 => Exists.intro (n + 1) (cq_y_lc36 hJ' hD hB hq (by omega) (n - 1) 1 (n + 1) true (by omega) (by omega) (by omega) (fun w => ?_) (fun w => nxt (fun b eb w2 => w ⟨rfl, fun o' a1 a2 a3 => ?_⟩)))))) (fun e => nm_r (nI_1 x) (nxt (fun b eb w => ?_)))⟩)
    · have := (cq_lc_some eb).2.2.2
      rw [← w, e2] at this
      exact absurd this (by decide)
    · have hoc : cq_oc l n p m z q x = true := by rw [cq_oc_op (by omega) e]; exact e2
      cases eb : cq_lc l n p g m z q n with
      | none =>
        have := cq_fo_none eb x (by omega)
        rw [hoc] at this
        exact absurd this (by decide)
      | some b =>
        have e3 : x = b := by
          have a1 := hh b eb
          obtain ⟨b1, b2, b3, b4⟩ := cq_lc_some eb
          apply Nat.le_antisymm a1
          apply Nat.le_of_not_lt
          intro hlt
          have a2 := (cq_lc_min eb).2 x hlt hoc
          have a3 := w.2 b (by omega) b1 (by rw [cq_oc_op b2 b3]; exact b4)
          rw [a2] at a3
          exact absurd a3 (by decide)
        rw [eb] at hp
        rw [e3]
        exact hp
    · subst w2
      exact (cq_lc_min eb).1 o' a2 a3
    · have := (cq_lc_some eb).2.2.1
      rw [← w] at this
      exact e this
theorem cq_y_lightestOpenChild (hJ : cq_J c l n p g m) (hD : cq_D T' B' n p z) (hB : B' < 2 ^ 30) {q : Nat} (hq : q < 2 ^ 31) (hp : post (cq_oI (cq_lc l n p g m z q n))) : wpY_lightestOpenChild post (cq_Y c l n p g m z) (nI q) :=
  Exists.intro (n + 1) (cq_y_lc2 hJ hD hB hq hp (n - 1) 1 (n + 1) (by have := hJ.1.2.2.2.1; omega) (by omega) (by omega) (fun b e => by have := (cq_lc_some e).2.1; omega))
end
