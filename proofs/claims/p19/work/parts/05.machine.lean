/-! the pure machine -/
def cq_u (p : Nat → Nat) (z : cq_Z) : Nat → Nat := cq_us p (cq_cl z) (cq_lv z)
def cq_h (z : cq_Z) : Nat → Nat := cq_hs (cq_cl z) (cq_cu z) (cq_lv z)
def cq_e (l : Nat) (z : cq_Z) (x : Nat) : Nat := cq_E (cq_r z) (cq_h z) l x 4
def cq_le (l n : Nat) (p m : Nat → Nat) (z : cq_Z) (x : Nat) : Bool := cq_el p m (cq_u p z) (cq_r z) (cq_h z) l n x
def cq_on (l n : Nat) (p m : Nat → Nat) (z : cq_Z) (q : Nat) : Bool := cq_op p m (cq_u p z) (cq_r z) (cq_h z) l n q
/-- the user and the slot that a grant takes -/
def cq_ue (l : Nat) (z : cq_Z) (x k : Nat) : Bool := decide (0 < cq_r z (x * 4 + k)) && decide (cq_h z (x * 4 + k) < l)
def cq_ubt (z : cq_Z) (x k j : Nat) : Bool := decide (cq_h z (x * 4 + k) < cq_h z (x * 4 + j))
def cq_us4 (l : Nat) (z : cq_Z) (x : Nat) (k : Nat) : Option Nat := cq_fo (cq_ue l z x) (cq_ubt z x) k
def cq_fr (z : cq_Z) (i : Nat) : Bool := !(cq_lv z i)
def cq_sl (z : cq_Z) : Option Nat := cq_fnd (cq_fr z) 0 64
def cq_gr (l x : Nat) (z : cq_Z) : cq_Z := match cq_us4 l z x 4 with
  | none => z
  | some y => match cq_sl z with
    | none => z
    | some s => cq_put z x y s
def cq_gb (l x : Nat) (z : cq_Z) : Bool := match cq_us4 l z x 4 with
  | none => false
  | some _ => match cq_sl z with
    | none => false
    | some _ => true
/-- the leaf that a step grants to -/
def cq_oc (l n : Nat) (p m : Nat → Nat) (z : cq_Z) (q j : Nat) : Bool := !(j == 0) && (p j == q) && cq_on l n p m z j
def cq_lc (l n : Nat) (p g m : Nat → Nat) (z : cq_Z) (q i : Nat) : Option Nat := cq_fo (cq_oc l n p m z q) (cq_lt g (cq_u p z)) i
def cq_lf (l n : Nat) (p g m : Nat → Nat) (z : cq_Z) : Nat → Nat → Nat
  | 0, q => q
  | f + 1, q => if cq_cc p n q = 0 then q else match cq_lc l n p g m z q n with
    | none => q
    | some b => cq_lf l n p g m z f b
def cq_nx (l n : Nat) (p g m : Nat → Nat) (z : cq_Z) : cq_Z := cq_gr l (cq_lf l n p g m z 16 0) z
def cq_fz (l n : Nat) (p g m : Nat → Nat) : Nat → cq_Z → cq_Z
  | 0, z => z
  | d + 1, z => if cq_on l n p m z 0 then cq_fz l n p g m d (cq_nx l n p g m z) else z
def cq_fn (l n : Nat) (p g m : Nat → Nat) : Nat → cq_Z → Nat
  | 0, _ => 0
  | d + 1, z => if cq_on l n p m z 0 then cq_fn l n p g m d (cq_nx l n p g m z) + 1 else 0
/-- a round of the taking back -/
def cq_st (l n : Nat) (p g : Nat → Nat) (z : cq_Z) (q : Nat) : Bool := decide (cq_cc p n q = 0) && decide (cq_u p z q < g q) && decide (0 < cq_e l z q)
def cq_sv (l n : Nat) (p g : Nat → Nat) (z : cq_Z) : Option Nat := cq_fnd (cq_st l n p g z) 0 n
def cq_fa (p m : Nat → Nat) (z : cq_Z) : Nat → Nat → Option Nat
  | 0, _ => none
  | f + 1, x => if cq_u p z x = m x then some x else if x = 0 then none else cq_fa p m z f (p x)
def cq_fs (p m : Nat → Nat) (z : cq_Z) (s : Nat) : Option Nat := if s = 0 then none else cq_fa p m z 16 (p s)
def cq_bw (p g : Nat → Nat) (z : cq_Z) (a s i : Nat) : Bool := cq_lv z i && !(cq_cl z i == s) && decide (g (cq_cl z i) < cq_u p z (cq_cl z i)) && cq_un p (cq_cl z i) a
def cq_yb (z : cq_Z) (i j : Nat) : Bool := decide (cq_id z j < cq_id z i)
def cq_vi (p g : Nat → Nat) (z : cq_Z) (a s k : Nat) : Option Nat := cq_fo (cq_bw p g z a s) (cq_yb z) k
def cq_rd (l n : Nat) (p g m : Nat → Nat) (z : cq_Z) : Option cq_Z := match cq_sv l n p g z with
  | none => none
  | some s => match cq_fs p m z s with
    | none => none
    | some a => match cq_vi p g z a s 64 with
      | none => none
      | some v => some (cq_gr l s (cq_rq z v))
def cq_pz (l n : Nat) (p g m : Nat → Nat) : Nat → cq_Z → cq_Z
  | 0, z => z
  | d + 1, z => match cq_rd l n p g m z with
    | none => z
    | some z' => cq_pz l n p g m d z'
def cq_pn (l n : Nat) (p g m : Nat → Nat) : Nat → cq_Z → Nat
  | 0, _ => 0
  | d + 1, z => match cq_rd l n p g m z with
    | none => 0
    | some z' => cq_pn l n p g m d z' + 1
/-! what it keeps -/
theorem cq_us4_lt {l : Nat} {z : cq_Z} {x y : Nat} (h : cq_us4 l z x 4 = some y) : y < 4 ∧ 0 < cq_r z (x * 4 + y) ∧ cq_h z (x * 4 + y) < l := by
  obtain ⟨a, b⟩ := cq_fo_lt h
  unfold cq_ue at b
  simp only [Bool.and_eq_true, decide_eq_true_eq] at b
  exact ⟨a, b.1, b.2⟩
theorem cq_sl_lt {z : cq_Z} {s : Nat} (h : cq_sl z = some s) : s < 64 ∧ cq_lv z s = false := by
  obtain ⟨a, _, c⟩ := cq_fnd_some h
  refine ⟨by omega, ?_⟩
  unfold cq_fr at a
  simpa using a
theorem cq_gr_no {l x : Nat} {z : cq_Z} (h : cq_gb l x z = false) : cq_gr l x z = z := by
  unfold cq_gb at h
  unfold cq_gr
  cases e : cq_us4 l z x 4 with
  | none => rfl
  | some y =>
    rw [e] at h
    cases f : cq_sl z with
    | none => rfl
    | some s =>
      rw [f] at h
      exact absurd h (by simp)
theorem cq_gr_yes {l x : Nat} {z : cq_Z} (h : cq_gb l x z = true) : ∃ y s, cq_us4 l z x 4 = some y ∧ cq_sl z = some s ∧ cq_gr l x z = cq_put z x y s := by
  unfold cq_gb at h
  unfold cq_gr
  cases e : cq_us4 l z x 4 with
  | none =>
    rw [e] at h
    exact absurd h (by simp)
  | some y =>
    rw [e] at h
    cases f : cq_sl z with
    | none =>
      rw [f] at h
      exact absurd h (by simp)
    | some s => exact ⟨y, s, rfl, rfl, rfl⟩
theorem cq_D_gr {T B n : Nat} {p : Nat → Nat} {z : cq_Z} (h : cq_D T B n p z) {l x : Nat} (hx : x < n) (hc : cq_cc p n x = 0) : cq_D (T + 1) B n p (cq_gr l x z) := by
  cases e : cq_gb l x z with
  | false =>
    rw [cq_gr_no e]
    exact cq_D_up h (by omega) (Nat.le_refl _)
  | true =>
    obtain ⟨y, s, hy, hs, eq⟩ := cq_gr_yes e
    rw [eq]
    exact cq_D_put h hx (cq_us4_lt hy).1 hc
theorem cq_D_rq {T B n : Nat} {p : Nat → Nat} {z : cq_Z} (h : cq_D T B n p z) {v : Nat} (hv : cq_lv z v = true) : cq_D T (B + 1) n p (cq_rq z v) := by
  obtain ⟨a, b, _, _, _⟩ := h.2.2.2 v hv
  have hr := h.2.1 (cq_cl z v * 4 + cq_cu z v)
  exact cq_D_sr (cq_D_del h v) (by omega) (by omega) (by omega)
theorem cq_lc_some {l n : Nat} {p g m : Nat → Nat} {z : cq_Z} {q i b : Nat} (h : cq_lc l n p g m z q i = some b) : b < i ∧ b ≠ 0 ∧ p b = q ∧ cq_on l n p m z b = true := by
  obtain ⟨a, e⟩ := cq_fo_lt h
  unfold cq_oc at e
  simp only [Bool.and_eq_true, Bool.not_eq_true', beq_eq_false_iff_ne, beq_iff_eq] at e
  exact ⟨a, e.1.1, e.1.2, e.2⟩
theorem cq_lc_ex {l n : Nat} {p g m : Nat → Nat} {z : cq_Z} (hT : cq_T p n) {q : Nat} (hc : cq_cc p n q ≠ 0) (ho : cq_on l n p m z q = true) : ∃ b, cq_lc l n p g m z q n = some b := by
  cases e : cq_lc l n p g m z q n with
  | some b => exact ⟨b, rfl⟩
  | none =>
    obtain ⟨j, a, b, c, d⟩ := (cq_op_in hT hc).mp ho
    have := cq_fo_none e j b
    unfold cq_oc at this
    have d' : cq_on l n p m z j = true := d
    rw [d', c] at this
    simp [a] at this
theorem cq_lf_ok {l n : Nat} {p g m : Nat → Nat} {z : cq_Z} (hT : cq_T p n) : ∀ f q, q < n → n ≤ q + f → cq_on l n p m z q = true → cq_lf l n p g m z f q < n ∧ cq_le l n p m z (cq_lf l n p g m z f q) = true := by
  intro f
  induction f with
  | zero =>
    intro q h1 h2
    omega
  | succ f ih =>
    intro q h1 h2 ho
    unfold cq_lf
    by_cases hc : cq_cc p n q = 0
    · rw [if_pos hc]
      exact ⟨h1, (cq_op_leaf hT h1 hc).symm.trans ho⟩
    · rw [if_neg hc]
      obtain ⟨b, hb⟩ := cq_lc_ex (g := g) hT hc ho
      obtain ⟨b1, b2, b3, b4⟩ := cq_lc_some hb
      have := hT b (by omega) b1
      rw [hb]
      exact ih b b1 (by omega) b4
theorem cq_nx_D {T B l n : Nat} {p g m : Nat → Nat} {z : cq_Z} (hT : cq_T p n) (h1 : 1 ≤ n) (hn : n ≤ 16) (h : cq_D T B n p z) (ho : cq_on l n p m z 0 = true) : cq_D (T + 1) B n p (cq_nx l n p g m z) := by
  obtain ⟨a, b⟩ := cq_lf_ok (g := g) hT 16 0 (by omega) (by omega) ho
  exact cq_D_gr h a (cq_el_cc b).1
theorem cq_fz_D {B l n : Nat} {p g m : Nat → Nat} (hT : cq_T p n) (h1 : 1 ≤ n) (hn : n ≤ 16) : ∀ d T z, cq_D T B n p z → cq_D (T + d) B n p (cq_fz l n p g m d z) := by
  intro d
  induction d with
  | zero =>
    intro T z h
    exact h
  | succ d ih =>
    intro T z h
    unfold cq_fz
    by_cases ho : cq_on l n p m z 0 = true
    · rw [if_pos ho]
      exact cq_D_up (ih (T + 1) _ (cq_nx_D hT h1 hn h ho)) (by omega) (Nat.le_refl _)
    · rw [if_neg ho]
      exact cq_D_up h (by omega) (Nat.le_refl _)
theorem cq_sv_ok {l n : Nat} {p g : Nat → Nat} {z : cq_Z} {s : Nat} (h : cq_sv l n p g z = some s) : s < n ∧ cq_cc p n s = 0 ∧ cq_u p z s < g s ∧ 0 < cq_e l z s := by
  obtain ⟨a, b, c⟩ := cq_fnd_some h
  unfold cq_st at a
  simp only [Bool.and_eq_true, decide_eq_true_eq] at a
  exact ⟨by omega, a.1.1, a.1.2, a.2⟩
theorem cq_vi_ok {p g : Nat → Nat} {z : cq_Z} {a s k v : Nat} (h : cq_vi p g z a s k = some v) : v < k ∧ cq_lv z v = true ∧ cq_cl z v ≠ s ∧ g (cq_cl z v) < cq_u p z (cq_cl z v) ∧ cq_un p (cq_cl z v) a = true := by
  obtain ⟨b, e⟩ := cq_fo_lt h
  unfold cq_bw at e
  simp only [Bool.and_eq_true, Bool.not_eq_true', beq_eq_false_iff_ne, decide_eq_true_eq] at e
  exact ⟨b, e.1.1.1, e.1.1.2, e.1.2, e.2⟩
theorem cq_rd_some {l n : Nat} {p g m : Nat → Nat} {z z' : cq_Z} (h : cq_rd l n p g m z = some z') : ∃ s a v, cq_sv l n p g z = some s ∧ cq_fs p m z s = some a ∧ cq_vi p g z a s 64 = some v ∧ z' = cq_gr l s (cq_rq z v) := by
  unfold cq_rd at h
  cases e1 : cq_sv l n p g z with
  | none => rw [e1] at h; exact absurd h (by simp)
  | some s =>
    rw [e1] at h
    dsimp only at h
    cases e2 : cq_fs p m z s with
    | none => rw [e2] at h; exact absurd h (by simp)
    | some a =>
      rw [e2] at h
      dsimp only at h
      cases e3 : cq_vi p g z a s 64 with
      | none => rw [e3] at h; exact absurd h (by simp)
      | some v =>
        rw [e3] at h
        cases h
        exact ⟨s, a, v, rfl, e2, e3, rfl⟩
theorem cq_rd_D {T B l n : Nat} {p g m : Nat → Nat} {z z' : cq_Z} (h : cq_D T B n p z) (e : cq_rd l n p g m z = some z') : cq_D (T + 1) (B + 1) n p z' := by
  obtain ⟨s, a, v, h1, h2, h3, rfl⟩ := cq_rd_some e
  obtain ⟨a1, a2, _, _⟩ := cq_sv_ok h1
  exact cq_D_gr (cq_D_rq h (cq_vi_ok h3).2.1) a1 a2
theorem cq_pz_D {l n : Nat} {p g m : Nat → Nat} : ∀ d T B z, cq_D T B n p z → cq_D (T + d) (B + d) n p (cq_pz l n p g m d z) := by
  intro d
  induction d with
  | zero =>
    intro T B z h
    exact h
  | succ d ih =>
    intro T B z h
    unfold cq_pz
    cases e : cq_rd l n p g m z with
    | none => exact cq_D_up h (by omega) (by omega)
    | some z' => exact cq_D_up (ih (T + 1) (B + 1) z' (cq_rd_D h e)) (by omega) (by omega)
/-! a step of the fill grants -/
theorem cq_u_put (p : Nat → Nat) {z : cq_Z} {s : Nat} (x y : Nat) (hs : s < 64) (hl : cq_lv z s = false) (q : Nat) : cq_u p (cq_put z x y s) q = cq_u p z q + (if cq_un p x q then 1 else 0) := cq_us_grant x hs hl q
theorem cq_h_put {z : cq_Z} {s : Nat} (x y : Nat) (hs : s < 64) (hl : cq_lv z s = false) (j : Nat) : cq_h (cq_put z x y s) j = cq_h z j + (if x * 4 + y == j then 1 else 0) := cq_hs_grant x y hs hl j
theorem cq_gb_ok {T B l n : Nat} {p : Nat → Nat} {z : cq_Z} (hT : cq_T p n) (h : cq_D T B n p z) {x : Nat} (he : 0 < cq_e l z x) (hu : cq_u p z 0 < 64) : cq_gb l x z = true := by
  obtain ⟨j, a, b, c⟩ := cq_E_ex he
  obtain ⟨i, hi, hl⟩ := cq_us_rt hT (fun i hi => (h.2.2.2 i hi).1) hu
  unfold cq_gb
  cases e : cq_us4 l z x 4 with
  | none =>
    have := cq_fo_none e j a
    unfold cq_ue at this
    simp [b, c] at this
  | some y =>
    cases f : cq_sl z with
    | none =>
      have := cq_fnd_none f i (by omega) (by omega)
      unfold cq_fr at this
      rw [hl] at this
      exact absurd this (by decide)
    | some s => rfl
theorem cq_le_room {l n : Nat} {p m : Nat → Nat} {z : cq_Z} (hT : cq_T p n) : ∀ d x, x < d → x < n → cq_rm p m (cq_u p z) x = true → ∀ a, cq_un p x a = true → cq_u p z a < m a := by
  intro d
  induction d with
  | zero =>
    intro x h
    omega
  | succ d ih =>
    intro x hd hx hr a ha
    unfold cq_rm at hr
    by_cases e : x = 0
    · subst e
      rw [cq_ex_0] at hr
      rw [cq_un_00] at ha
      have : 0 = a := by simpa using ha
      subst this
      simpa using hr
    · have hp := hT x (by omega) hx
      rw [cq_ex_p hT _ e hx] at hr
      simp only [Bool.not_or, Bool.and_eq_true, Bool.not_eq_true', decide_eq_false_iff_not, Nat.not_le] at hr
      by_cases w : x = a
      · subst w
        exact hr.1
      · rw [cq_un_ne hT e hx w] at ha
        refine ih (p x) (by omega) (by omega) ?_ a ha
        unfold cq_rm
        rw [hr.2]
        rfl
theorem cq_on_0 {l n : Nat} {p m : Nat → Nat} {z : cq_Z} (hT : cq_T p n) (ho : cq_on l n p m z 0 = true) : cq_u p z 0 < m 0 := by
  obtain ⟨x, hx, hh⟩ := cq_any_iff.mp ho
  simp only [Bool.and_eq_true] at hh
  exact cq_le_room (l := l) hT (x + 1) x (by omega) hx (cq_el_cc hh.2).2.2 0 hh.1
theorem cq_nx_ok {T B c l n : Nat} {p g m : Nat → Nat} {z : cq_Z} (hJ : cq_J c l n p g m) (h : cq_D T B n p z) (ho : cq_on l n p m z 0 = true) : cq_gb l (cq_lf l n p g m z 16 0) z = true ∧ cq_u p (cq_nx l n p g m z) 0 = cq_u p z 0 + 1 := by
  obtain ⟨⟨h1, h2, h3, h4, h5⟩, hT, hg, hm, h0⟩ := hJ
  obtain ⟨a, b⟩ := cq_lf_ok (g := g) hT 16 0 (by omega) (by omega) ho
  obtain ⟨b1, b2, b3⟩ := cq_el_cc b
  have hu := cq_on_0 hT ho
  have hb := cq_gb_ok (l := l) hT h b2 (by omega)
  refine ⟨hb, ?_⟩
  obtain ⟨y, s, hy, hs, eq⟩ := cq_gr_yes hb
  obtain ⟨s1, s2⟩ := cq_sl_lt hs
  unfold cq_nx
  rw [eq, cq_u_put p _ _ s1 s2, cq_un_rt hT _ _ (Nat.lt_succ_self _) a]
  rfl
