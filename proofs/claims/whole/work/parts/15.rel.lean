/-! what the owed statements need besides -/
def cq_S (z : cq_Z) : Prop := ∀ i, cq_lv z i = true → i < 64
theorem cq_S_put {z : cq_Z} (h : cq_S z) {x y s : Nat} (hs : s < 64) : cq_S (cq_put z x y s) := by
  intro i hi
  have hi' : cq_ub (cq_lv z) s true i = true := hi
  by_cases e : i = s
  · omega
  · rw [cq_ub_n e] at hi'
    exact h i hi'
theorem cq_S_del {z : cq_Z} (h : cq_S z) (s : Nat) : cq_S (cq_del z s) := by
  intro i hi
  have hi' : cq_ub (cq_lv z) s false i = true := hi
  by_cases e : i = s
  · subst e
    rw [cq_ub_s] at hi'
    exact absurd hi' (by decide)
  · rw [cq_ub_n e] at hi'
    exact h i hi'
theorem cq_S_gr {z : cq_Z} (h : cq_S z) (l x : Nat) : cq_S (cq_gr l x z) := by
  cases e : cq_gb l x z with
  | false =>
    rw [cq_gr_no e]
    exact h
  | true =>
    obtain ⟨y, s, hy, hs, eq⟩ := cq_gr_yes e
    rw [eq]
    exact cq_S_put h (cq_sl_lt hs).1
theorem cq_S_fz {l n : Nat} {p g m : Nat → Nat} : ∀ d z, cq_S z → cq_S (cq_fz l n p g m d z) := by
  intro d
  induction d with
  | zero =>
    intro z h
    exact h
  | succ d ih =>
    intro z h
    unfold cq_fz
    by_cases ho : cq_on l n p m z 0 = true
    · rw [if_pos ho]
      exact ih _ (cq_S_gr h _ _)
    · rw [if_neg ho]
      exact h
theorem cq_S_pz {l n : Nat} {p g m : Nat → Nat} : ∀ d z, cq_S z → cq_S (cq_pz l n p g m d z) := by
  intro d
  induction d with
  | zero =>
    intro z h
    exact h
  | succ d ih =>
    intro z h
    rw [cq_pz_s]
    cases e : cq_rd l n p g m z with
    | none => exact h
    | some z' =>
      obtain ⟨s, a, v, h1, h2, h3, rfl⟩ := cq_rd_some e
      exact ih _ (cq_S_gr (show cq_S (cq_rq z v) from cq_S_del h v) _ _)
/-- the relation: one pure state behind both -/
def i_Rel (k : Nat) (u : SX) (v : SY) : Prop := ∃ (c l n : Nat) (p g m : Nat → Nat) (z : cq_Z) (op : Nat → Int32), u = cq_X c l n p g m z op ∧ v = cq_Y c l n p g m z ∧ cq_J c l n p g m ∧ cq_D (64 * k) (64 * k) n p z ∧ cq_S z
theorem cq_K {k : Nat} {c l n : Nat} {p g m : Nat → Nat} {z : cq_Z} {op : Nat → Int32} (hJ : cq_J c l n p g m) (hD : cq_D (64 * (k + 4)) (64 * (k + 4)) n p z) (hS : cq_S z) : i_Rel (k + 4) (cq_X c l n p g m z op) (cq_Y c l n p g m z) :=
  ⟨c, l, n, p, g, m, z, op, rfl, rfl, hJ, hD, hS⟩
theorem cq_clamp (v : Int32) : ∃ a : Nat, 1 ≤ a ∧ a ≤ 64 ∧ ∀ (P : Int32 → Prop), P (nI a) → ((1 ≤ v → ((v ≤ 64 → P v) ∧ (¬ v ≤ 64 → P 64))) ∧ (¬ 1 ≤ v → P 1)) := by
  by_cases h1 : 1 ≤ v
  · by_cases h2 : v ≤ 64
    · have h0 : ¬ v < 0 := fun w => absurd (Int32.lt_of_lt_of_le (by decide : (0 : Int32) < 1) h1) (fun w' => Int32.lt_irrefl (Int32.lt_trans w w'))
      obtain ⟨a, ha, rfl⟩ := nI_of h0
      rw [show (1 : Int32) = nI 1 from rfl, nI_leI (by decide) ha] at h1
      rw [show (64 : Int32) = nI 64 from rfl, nI_leI ha (by decide)] at h2
      exact ⟨a, h1, h2, fun P hP => br_t (nI_le h1 ha) (br_t (nI_le h2 (by decide)) hP)⟩
    · exact ⟨64, by decide, by decide, fun P hP => br_t h1 (br_f h2 hP)⟩
  · exact ⟨1, by decide, by decide, fun P hP => br_f h1 hP⟩
theorem cq_in1 {v : Int32} {b : Nat} (h0 : ¬ v < 0) (h1 : v ≤ nI b) (hb : b < 2 ^ 31) : ∃ a : Nat, a ≤ b ∧ v = nI a := by
  obtain ⟨a, ha, rfl⟩ := nI_of h0
  exact ⟨a, (nI_leI ha hb).mp h1, rfl⟩
section
variable {n : Nat} {v : Int32} {P Q : Prop}
theorem cq_noA (h : v < 0 ∨ nI n ≤ v) (hp : P) : (v < 0 → P) ∧ (¬ v < 0 → ((v < nI n → Q) ∧ (¬ v < nI n → P))) := by
  by_cases h0 : v < 0
  · exact br_t h0 hp
  · exact br_f h0 (br_f (Int32.not_lt.mpr (h.resolve_left h0)) hp)
theorem cq_noB (h : v < 0 ∨ nI n ≤ v) (hp : P) : (v < 0 → P) ∧ (¬ v < 0 → ((nI n ≤ v → P) ∧ (¬ nI n ≤ v → Q))) := by
  by_cases h0 : v < 0
  · exact br_t h0 hp
  · exact br_f h0 (br_t (h.resolve_left h0) hp)
theorem cq_noU (h : v < 0 ∨ nI 4 ≤ v) (hp : P) : (v < 0 → P) ∧ (¬ v < 0 → ((v ≤ 3 → Q) ∧ (¬ v ≤ 3 → P))) := by
  by_cases h0 : v < 0
  · exact br_t h0 hp
  · exact br_f h0 (br_f (Int32.not_le.mpr (Int32.lt_of_lt_of_le (by decide) (h.resolve_left h0))) hp)
theorem cq_yesA {j : Nat} (hn : n ≤ 16) (hj : j < n) (hq : Q) : (nI j < 0 → P) ∧ (¬ nI j < 0 → ((nI j < nI n → Q) ∧ (¬ nI j < nI n → P))) :=
  br_f (nI_pos (by omega)) (br_t (nI_lt hj (by omega)) hq)
theorem cq_yesB {j : Nat} (hn : n ≤ 16) (hj : j < n) (hq : Q) : (nI j < 0 → P) ∧ (¬ nI j < 0 → ((nI n ≤ nI j → P) ∧ (¬ nI n ≤ nI j → Q))) :=
  br_f (nI_pos (by omega)) (br_f (nI_ge hj (by omega)) hq)
theorem cq_yesU {j : Nat} (hj : j < 4) (hq : Q) : (nI j < 0 → P) ∧ (¬ nI j < 0 → ((nI j ≤ 3 → Q) ∧ (¬ nI j ≤ 3 → P))) :=
  br_f (nI_pos (by omega)) (br_t (show nI j ≤ nI 3 from nI_le (by omega) (by decide)) hq)
end
theorem cq_ix3 {v : Int32} {n : Nat} (hn : n < 2 ^ 31) : (v < 0 ∨ nI n ≤ v) ∨ ∃ j : Nat, j < n ∧ v = nI j := by
  rcases pk_ix v hn with h | h | h
  · exact Or.inl (Or.inl h)
  · exact Or.inl (Or.inr h)
  · exact Or.inr h
theorem cq_w_add {f : Nat → Nat} {x y : Nat} (d : Nat) (h : x * 4 + y < 2 ^ 31) : upd (cq_A f) (nI x * 4 + nI y).toNatClampNeg (cq_A f (nI x * 4 + nI y).toNatClampNeg + nI d) = cq_A (cq_up f (x * 4 + y) (f (x * 4 + y) + d)) := by
  rw [cq_ix, cq_rA f h, nI_clamp h, nI_add, cq_A_up]
theorem cq_w_zero {f : Nat → Nat} {x y : Nat} (h : x * 4 + y < 2 ^ 31) : upd (cq_A f) (nI x * 4 + nI y).toNatClampNeg 0 = cq_A (cq_up f (x * 4 + y) 0) := by
  rw [cq_ix, nI_clamp h]
  exact cq_A_up f (x * 4 + y) 0
section
variable {c l n : Nat} {p g m : Nat → Nat} {z : cq_Z} {T' B' : Nat}
theorem cq_y_complete (hD : cq_D T' B' n p z) (hT' : T' < 2 ^ 31) {post : Int32 → SY → Prop} {e : Nat} (he : e < 2 ^ 31) : ∀ d i f, i + d = 64 → d < f → (cq_fnd (cq_at z e) i d = none → post 0 (cq_Y c l n p g m z)) → (∀ s, cq_fnd (cq_at z e) i d = some s → post 1 (cq_Y c l n p g m (cq_del z s))) → wY_complete_8 post (nI e) (nI c) (nI l) (nI n) (nI (cq_t z)) (cq_P p) (cq_A g) (cq_A m) (cq_A (cq_r z)) (cq_A (cq_id z)) (cq_A (cq_cl z)) (cq_A (cq_cu z)) (cq_V (cq_lv z)) f (nI i) := by
  intro d
  induction d with
  | zero =>
    intro i f hi hf h0 h1
    obtain ⟨f, rfl⟩ : ∃ k, f = k + 1 := ⟨f - 1, by omega⟩
    exact pk_le 64 i (fun _ => h0 rfl) (fun h => by omega)
  | succ d ih =>
    intro i f hi hf h0 h1
    obtain ⟨f, rfl⟩ : ∃ k, f = k + 1 := ⟨f - 1, by omega⟩
    have ii : vp_in (nI i) 64 := vp_in_nI (by omega) (by omega)
    have ht := hD.1.2
    rw [cq_fnd_s] at h0 h1
    have nxt : cq_at z e i = false → wY_complete_8 post (nI e) (nI c) (nI l) (nI n) (nI (cq_t z)) (cq_P p) (cq_A g) (cq_A m) (cq_A (cq_r z)) (cq_A (cq_id z)) (cq_A (cq_cl z)) (cq_A (cq_cu z)) (cq_V (cq_lv z)) f (nI (i + 1)) := by
      intro w
      rw [if_neg (by rw [w]; decide)] at h0 h1
      exact ih (i + 1) f (by omega) (by omega) h0 h1
    refine pk_le 64 i (fun h => by omega) (fun _ => ⟨ii, cq_vb (by omega) (fun w => nm_r (nI_1 i) (nxt (by unfold cq_at; rw [w]; rfl))) (fun hl => ⟨ii, ?_⟩)⟩)
    obtain ⟨a1, a2, a3, a4, a5⟩ := hD.2.2.2 i hl
    refine cq_if (d := cq_id z i = e) (by rw [cq_rA (cq_id z) (by omega)]; exact nI_eq (by omega) he) (fun w => ⟨ii, nm_r (cq_w_f (by omega)) (h1 i ?_)⟩) (fun w => nm_r (nI_1 i) (nxt (by unfold cq_at; simp [w])))
    rw [if_pos]
    unfold cq_at
    rw [hl, w]
    simp
theorem cq_y_info (hD : cq_D T' B' n p z) (hT' : T' < 2 ^ 31) {post : Int32 → Prop} {e : Nat} (he : e < 2 ^ 31) : ∀ d i f, i + d = 64 → d < f → (cq_fnd (cq_at z e) i d = none → post (-1)) → (∀ s, cq_fnd (cq_at z e) i d = some s → post (nI (cq_cl z s * 4 + cq_cu z s))) → wY_containerInfo_8 post (nI e) (nI c) (nI l) (nI n) (nI (cq_t z)) (cq_P p) (cq_A g) (cq_A m) (cq_A (cq_r z)) (cq_A (cq_id z)) (cq_A (cq_cl z)) (cq_A (cq_cu z)) (cq_V (cq_lv z)) f (nI i) := by
  intro d
  induction d with
  | zero =>
    intro i f hi hf h0 h1
    obtain ⟨f, rfl⟩ : ∃ k, f = k + 1 := ⟨f - 1, by omega⟩
    exact pk_le 64 i (fun _ => h0 rfl) (fun h => by omega)
  | succ d ih =>
    intro i f hi hf h0 h1
    obtain ⟨f, rfl⟩ : ∃ k, f = k + 1 := ⟨f - 1, by omega⟩
    have ii : vp_in (nI i) 64 := vp_in_nI (by omega) (by omega)
    have ht := hD.1.2
    rw [cq_fnd_s] at h0 h1
    have nxt : cq_at z e i = false → wY_containerInfo_8 post (nI e) (nI c) (nI l) (nI n) (nI (cq_t z)) (cq_P p) (cq_A g) (cq_A m) (cq_A (cq_r z)) (cq_A (cq_id z)) (cq_A (cq_cl z)) (cq_A (cq_cu z)) (cq_V (cq_lv z)) f (nI (i + 1)) := by
      intro w
      rw [if_neg (by rw [w]; decide)] at h0 h1
      exact ih (i + 1) f (by omega) (by omega) h0 h1
    refine pk_le 64 i (fun h => by omega) (fun _ => ⟨ii, cq_vb (by omega) (fun w => nm_r (nI_1 i) (nxt (by unfold cq_at; rw [w]; rfl))) (fun hl => ⟨ii, ?_⟩)⟩)
    obtain ⟨a1, a2, a3, a4, a5⟩ := hD.2.2.2 i hl
    refine cq_if (d := cq_id z i = e) (by rw [cq_rA (cq_id z) (by omega)]; exact nI_eq (by omega) he) (fun w => ⟨ii, ii, ?_⟩) (fun w => nm_r (nI_1 i) (nxt (by unfold cq_at; simp [w])))
    rw [cq_rA (cq_cl z) (by omega), cq_rA (cq_cu z) (by omega), cq_ix]
    refine h1 i ?_
    rw [if_pos]
    unfold cq_at
    rw [hl, w]
    simp
theorem cq_y_a46 (hn : n ≤ 16) (hD : cq_D T' B' n p z) (hB : B' < 2 ^ 30) {post : Int32 → SY → Prop} {q : Nat} (hq : q < n) {v2 v3 : Int32} (h1 : cq_any (cq_pd z q) 4 = true → post (-1) (cq_Y c l n p g m z)) (h0 : cq_any (cq_pd z q) 4 = false → wY_addQueue_74 post (nI q) v2 v3 (nI c) (nI l) (nI n) (nI (cq_t z)) (cq_P p) (cq_A g) (cq_A m) (cq_A (cq_r z)) (cq_A (cq_id z)) (cq_A (cq_cl z)) (cq_A (cq_cu z)) (cq_V (cq_lv z))) : ∀ d k f, k + d = 4 → d < f → (∀ j, j < k → cq_pd z q j = false) → wY_addQueue_46 post (nI q) v2 v3 (nI c) (nI l) (nI n) (nI (cq_t z)) (cq_P p) (cq_A g) (cq_A m) (cq_A (cq_r z)) (cq_A (cq_id z)) (cq_A (cq_cl z)) (cq_A (cq_cu z)) (cq_V (cq_lv z)) f (nI k) := by
  intro d
  induction d with
  | zero =>
    intro k f hk hf hh
    obtain ⟨f, rfl⟩ : ∃ k, f = k + 1 := ⟨f - 1, by omega⟩
    exact pk_le 4 k (fun _ => h0 (cq_any_f fun j hj => hh j (by omega))) (fun h => by omega)
  | succ d ih =>
    intro k f hk hf hh
    obtain ⟨f, rfl⟩ : ∃ k, f = k + 1 := ⟨f - 1, by omega⟩
    have hr := hD.2.1 (q * 4 + k)
    refine pk_le 4 k (fun h => by omega) (fun _ => ⟨by rw [cq_ix]; exact vp_in_nI (by omega) (by omega), cq_if (d := cq_r z (q * 4 + k) = 0) (by rw [cq_ix]; exact cq_g0 (by omega) (by omega)) (fun e => nm_r (nI_1 k) (ih (k + 1) f (by omega) (by omega) (fun j hj => ?_))) (fun e => h1 (cq_any_iff.mpr ⟨k, by omega, by unfold cq_pd; simp; omega⟩))⟩)
    by_cases w : j = k
    · subst w
      unfold cq_pd
      simp [e]
    · exact hh j (by omega)
theorem cq_y_a145 {fc fl ft : Int32} {a1 a2 a3 a5 a6 a7 a8 : Nat → Int32} {r : Nat → Nat} (hn : n < 16) (hr : ∀ j, 4 * n ≤ j → r j = 0) {post : Int32 → SY → Prop} (hp : post (nI n) (fc, fl, nI (n + 1), ft, a1, a2, a3, cq_A r, a5, a6, a7, a8)) : ∀ d k f, k + d = 4 → d < f → wY_addQueue_145 post (nI n) fc fl (nI n) ft f (nI k) a1 a2 a3 (cq_A r) a5 a6 a7 a8 := by
  intro d
  induction d with
  | zero =>
    intro k f hk hf
    obtain ⟨f, rfl⟩ : ∃ k, f = k + 1 := ⟨f - 1, by omega⟩
    exact pk_le 4 k (fun _ => nm_r (nI_1 n) hp) (fun h => by omega)
  | succ d ih =>
    intro k f hk hf
    obtain ⟨f, rfl⟩ : ∃ k, f = k + 1 := ⟨f - 1, by omega⟩
    have e : cq_up r (n * 4 + k) 0 = r := by
      funext j
      by_cases w : j = n * 4 + k
      · subst w
        rw [cq_up_s, hr _ (by omega)]
      · exact cq_up_n w
    refine pk_le 4 k (fun h => by omega) (fun _ => ⟨by rw [cq_ix]; exact vp_in_nI (by omega) (by omega), nm_r (e' := cq_A r) (by rw [cq_w_zero (by omega), e]) (nm_r (nI_1 k) (ih (k + 1) f (by omega) (by omega)))⟩)
end
