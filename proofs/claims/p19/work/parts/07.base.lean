/-! rows that serve both claims -/
section
variable {k c l n : Nat} {p g m : Nat → Nat} {z : cq_Z} {op : Nat → Int32} {post : Int32 → Prop} {A B : Prop} {T' B' : Nat}
theorem cq_pe (hT : cq_T p n) (hn : n ≤ 16) {j q : Nat} (h0 : j ≠ 0) (hj : j < n) (hq : q < 2 ^ 31) : cq_P p (nI j).toNatClampNeg = nI q ↔ p j = q := by
  have := hT j (by omega) hj
  rw [cq_rPp p h0 (by omega)]
  exact nI_eq (by omega) hq
theorem cq_g0 {f : Nat → Nat} {x : Nat} (h : x < 2 ^ 31) (hf : f x < 2 ^ 31) : cq_A f (nI x).toNatClampNeg ≤ 0 ↔ f x = 0 := by
  rw [cq_rA f h, show (0 : Int32) = nI 0 from rfl, nI_leI hf (by decide)]
  omega
theorem cq_g1 {f : Nat → Nat} {x : Nat} (h : x < 2 ^ 31) (hf : f x < 2 ^ 31) : cq_A f (nI x).toNatClampNeg = 0 ↔ f x = 0 := by
  rw [cq_rA f h, show (0 : Int32) = nI 0 from rfl, nI_eq hf (by decide)]
def cq_hc (p : Nat → Nat) (n q : Nat) : Bool := !(decide (cq_cc p n q = 0))
theorem cq_hc_f {q : Nat} (h : cq_cc p n q = 0) : cq_hc p n q = false := by simp [cq_hc, h]
theorem cq_hc_t {q : Nat} (h : cq_cc p n q ≠ 0) : cq_hc p n q = true := by simp [cq_hc, h]
theorem cq_rm_f {u : Nat → Nat} (hT : cq_T p n) {x : Nat} (hx : x < n) (h : m x ≤ u x) : cq_rm p m u x = false := by
  unfold cq_rm
  rw [cq_ex_st hT hx (by simpa using h)]
  rfl
theorem cq_rm_0 {u : Nat → Nat} (h : u 0 < m 0) : cq_rm p m u 0 = true := by
  unfold cq_rm
  rw [cq_ex_0]
  simpa using h
theorem cq_rm_p {u : Nat → Nat} (hT : cq_T p n) {x : Nat} (h0 : x ≠ 0) (hx : x < n) (h : u x < m x) : cq_rm p m u x = cq_rm p m u (p x) := by
  unfold cq_rm
  rw [cq_ex_p hT _ h0 hx, show decide (m x ≤ u x) = false by simpa using h, Bool.false_or]
theorem cq_e_le (l : Nat) (z : cq_Z) (x : Nat) : cq_e l z x ≤ l * 4 := cq_E_le _ _ _ _ _
theorem cq_oc_no {q o : Nat} (h0 : o ≠ 0) (h : p o ≠ q) : cq_oc l n p m z q o = false := by
  unfold cq_oc
  simp [h]
theorem cq_oc_op {q o : Nat} (h0 : o ≠ 0) (h : p o = q) : cq_oc l n p m z q o = cq_on l n p m z o := by
  unfold cq_oc
  simp [h0, h]
theorem cq_dec {a : Nat} (h : 0 < a) : nI a - 1 = nI (a - 1) := by
  obtain ⟨k, rfl⟩ : ∃ k, a = k + 1 := ⟨a - 1, by omega⟩
  exact nI_pred k
theorem cq_w_dec {f : Nat → Nat} {x y : Nat} (h : x * 4 + y < 2 ^ 31) (h0 : 0 < f (x * 4 + y)) : upd (cq_A f) (nI x * 4 + nI y).toNatClampNeg (cq_A f (nI x * 4 + nI y).toNatClampNeg - 1) = cq_A (cq_up f (x * 4 + y) (f (x * 4 + y) - 1)) := by
  rw [cq_ix, cq_rA f h, nI_clamp h, cq_dec h0, cq_A_up]
theorem cq_w_inc {f : Nat → Nat} {x y : Nat} (h : x * 4 + y < 2 ^ 31) : upd (cq_A f) (nI x * 4 + nI y).toNatClampNeg (cq_A f (nI x * 4 + nI y).toNatClampNeg + 1) = cq_A (cq_up f (x * 4 + y) (f (x * 4 + y) + 1)) := by
  rw [cq_ix, cq_rA f h, nI_clamp h, nI_1, cq_A_up]
theorem cq_w_set {f : Nat → Nat} {i : Nat} (v : Nat) (h : i < 2 ^ 31) : upd (cq_A f) (nI i).toNatClampNeg (nI v) = cq_A (cq_up f i v) := by
  rw [nI_clamp h, cq_A_up]
theorem cq_nar1 : vp_nar .boolean 1 = 1 := by rfl
theorem cq_nar0 : vp_nar .boolean 0 = 0 := by rfl
theorem cq_us4_s (l : Nat) (z : cq_Z) (x k : Nat) : cq_us4 l z x (k + 1) = (match cq_us4 l z x k with
    | none => if cq_ue l z x k then some k else none
    | some j => if cq_ue l z x k && cq_ubt z x k j then some k else some j) := rfl
theorem cq_us4_k {l : Nat} {x k : Nat} (h : cq_ue l z x k = false) : cq_us4 l z x (k + 1) = cq_us4 l z x k := cq_fo_k h
theorem cq_us4_4 {l : Nat} {x k y : Nat} (h : cq_us4 l z x k = some y) : y < k := (cq_fo_lt h).1
def cq_S (z : cq_Z) : Prop := ∀ i, cq_lv z i = true → i < 64
theorem cq_S_put {z : cq_Z} (h : cq_S z) {x y s : Nat} (hs : s < 64) : cq_S (cq_put z x y s) := by
  intro i hi
  have hi' : cq_ub (cq_lv z) s true i = true := hi
  by_cases e : i = s
  · omega
  · rw [cq_ub_n e] at hi'
    exact h i hi'
theorem cq_S_del {z : cq_Z} (h : cq_S z) (s : Nat) : cq_S (cq_del z s) := by
  intro i hi
  have hi' : cq_ub (cq_lv z) s false i = true := hi
  by_cases e : i = s
  · subst e
    rw [cq_ub_s] at hi'
    exact absurd hi' (by decide)
  · rw [cq_ub_n e] at hi'
    exact h i hi'
theorem cq_S_gr {z : cq_Z} (h : cq_S z) (l x : Nat) : cq_S (cq_gr l x z) := by
  cases e : cq_gb l x z with
  | false =>
    rw [cq_gr_no e]
    exact h
  | true =>
    obtain ⟨y, s, hy, hs, eq⟩ := cq_gr_yes e
    rw [eq]
    exact cq_S_put h (cq_sl_lt hs).1
theorem cq_S_fz {l n : Nat} {p g m : Nat → Nat} : ∀ d z, cq_S z → cq_S (cq_fz l n p g m d z) := by
  intro d
  induction d with
  | zero =>
    intro z h
    exact h
  | succ d ih =>
    intro z h
    unfold cq_fz
    by_cases ho : cq_on l n p m z 0 = true
    · rw [if_pos ho]
      exact ih _ (cq_S_gr h _ _)
    · rw [if_neg ho]
      exact h
theorem cq_clamp (v : Int32) : ∃ a : Nat, 1 ≤ a ∧ a ≤ 64 ∧ ∀ (P : Int32 → Prop), P (nI a) → ((1 ≤ v → ((v ≤ 64 → P v) ∧ (¬ v ≤ 64 → P 64))) ∧ (¬ 1 ≤ v → P 1)) := by
  by_cases h1 : 1 ≤ v
  · by_cases h2 : v ≤ 64
    · have h0 : ¬ v < 0 := fun w => absurd (Int32.lt_of_lt_of_le (by decide : (0 : Int32) < 1) h1) (fun w' => Int32.lt_irrefl (Int32.lt_trans w w'))
      obtain ⟨a, ha, rfl⟩ := nI_of h0
      rw [show (1 : Int32) = nI 1 from rfl, nI_leI (by decide) ha] at h1
      rw [show (64 : Int32) = nI 64 from rfl, nI_leI ha (by decide)] at h2
      exact ⟨a, h1, h2, fun P hP => br_t (nI_le h1 ha) (br_t (nI_le h2 (by decide)) hP)⟩
    · exact ⟨64, by decide, by decide, fun P hP => br_t h1 (br_f h2 hP)⟩
  · exact ⟨1, by decide, by decide, fun P hP => br_f h1 hP⟩
theorem cq_in1 {v : Int32} {b : Nat} (h0 : ¬ v < 0) (h1 : v ≤ nI b) (hb : b < 2 ^ 31) : ∃ a : Nat, a ≤ b ∧ v = nI a := by
  obtain ⟨a, ha, rfl⟩ := nI_of h0
  exact ⟨a, (nI_leI ha hb).mp h1, rfl⟩
theorem cq_ix3 {v : Int32} {n : Nat} (hn : n < 2 ^ 31) : (v < 0 ∨ nI n ≤ v) ∨ ∃ j : Nat, j < n ∧ v = nI j := by
  rcases pk_ix v hn with h | h | h
  · exact Or.inl (Or.inl h)
  · exact Or.inl (Or.inr h)
  · exact Or.inr h
theorem cq_w_add {f : Nat → Nat} {x y : Nat} (d : Nat) (h : x * 4 + y < 2 ^ 31) : upd (cq_A f) (nI x * 4 + nI y).toNatClampNeg (cq_A f (nI x * 4 + nI y).toNatClampNeg + nI d) = cq_A (cq_up f (x * 4 + y) (f (x * 4 + y) + d)) := by
  rw [cq_ix, cq_rA f h, nI_clamp h, nI_add, cq_A_up]
theorem cq_w_zero {f : Nat → Nat} {x y : Nat} (h : x * 4 + y < 2 ^ 31) : upd (cq_A f) (nI x * 4 + nI y).toNatClampNeg 0 = cq_A (cq_up f (x * 4 + y) 0) := by
  rw [cq_ix, nI_clamp h]
  exact cq_A_up f (x * 4 + y) 0
theorem cq_D_new (hT : cq_T p n) (h1 : 1 ≤ n) {T' B' : Nat} (hD : cq_D T' B' n p z) (hS : cq_S z) {j : Nat} (hj : j < n) (hb : cq_cc p n j = 0 → cq_u p z j = 0) : cq_D T' B' (n + 1) (cq_up p n j) z := by
  obtain ⟨a, b, d, e⟩ := hD
  refine ⟨a, b, fun i hi => d i (by omega), fun i hi => ?_⟩
  obtain ⟨e1, e2, e3, e4, e5⟩ := e i hi
  refine ⟨by omega, e2, e3, e4, ?_⟩
  rw [cq_cc_new h1, e5, if_neg]
  simp only [beq_iff_eq]
  intro w
  subst w
  have h0 : 0 < cq_u p z (cq_cl z i) := cq_cnt_pos (hS i hi) (by simp [hi, cq_un_self])
  have := hb e5
  omega
theorem cq_J_new (hJ : cq_J c l n p g m) (hn : n < 16) {j a b : Nat} (hj : j < n) (ha : a ≤ 64) (hb : b ≤ 64) : cq_J c l (n + 1) (cq_up p n j) (cq_up g n a) (cq_up m n b) := by
  obtain ⟨⟨h1, h2, h3, h4, h5⟩, hT, hg, hm, h0⟩ := hJ
  refine ⟨⟨h1, h2, h3, by omega, by omega⟩, fun q q1 q2 => ?_, fun q => ?_, fun q => ?_, ?_⟩
  · by_cases w : q = n
    · subst w
      rw [cq_up_s]
      exact hj
    · rw [cq_up_n w]
      exact hT q q1 (by omega)
  · have := hg q
    unfold cq_up
    split <;> omega
  · have := hm q
    unfold cq_up
    split <;> omega
  · rw [cq_up_n (by omega)]
    exact h0
theorem cq_J_set (hJ : cq_J c l n p g m) {j a b : Nat} (hj : j ≠ 0) (ha : a ≤ 64) (hb : b ≤ 64) : cq_J c l n p (cq_up g j a) (cq_up m j b) := by
  obtain ⟨hh, hT, hg, hm, h0⟩ := hJ
  refine ⟨hh, hT, fun q => ?_, fun q => ?_, ?_⟩
  · have := hg q
    unfold cq_up
    split <;> omega
  · have := hm q
    unfold cq_up
    split <;> omega
  · rw [cq_up_n (fun w => hj w.symm)]
    exact h0
end
