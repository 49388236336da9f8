/-! small helps for the walks -/
theorem cq_if {c d A B : Prop} (e : c ↔ d) (f : d → A) (g : ¬ d → B) : (c → A) ∧ (¬ c → B) := ⟨fun h => f (e.mp h), fun h => g (fun k => h (e.mpr k))⟩
theorem cq_b0 {b : Bool} {A B : Prop} (f : b = false → A) (g : b = true → B) : (cq_bI b = 0 → A) ∧ (¬ cq_bI b = 0 → B) := by
  cases b with
  | false => exact br_t rfl (f rfl)
  | true => exact br_f (by decide) (g rfl)
theorem cq_nb (b : Bool) : narrow .boolean (.int (cq_bI b)) = .int (cq_bI b) := by
  cases b <;> rfl
theorem cq_m1 {i : Nat} (h : i < 2 ^ 31) : ¬ nI i = -1 := by
  intro e
  have e' := congrArg Int32.toInt e
  rw [nI_toInt h] at e'
  have : (-1 : Int32).toInt = -1 := by decide
  omega
theorem cq_oe {o : Option Nat} {A B : Prop} (ho : ∀ i, o = some i → i < 2 ^ 31) (f : o = none → A) (g : ∀ i, o = some i → B) : (cq_oI o = -1 → A) ∧ (¬ cq_oI o = -1 → B) := by
  cases o with
  | none => exact br_t rfl (f rfl)
  | some i => exact br_f (cq_m1 (ho i rfl)) (g i rfl)
theorem cq_ol {o : Option Nat} {A B : Prop} (ho : ∀ i, o = some i → i < 2 ^ 31) (f : o = none → A) (g : ∀ i, o = some i → B) : (cq_oI o < 0 → A) ∧ (¬ cq_oI o < 0 → B) := by
  cases o with
  | none => exact br_t (by decide) (f rfl)
  | some i => exact br_f (nI_pos (ho i rfl)) (g i rfl)
theorem cq_og {o : Option Nat} {A B : Prop} (ho : ∀ i, o = some i → i < 2 ^ 31) (f : o = none → B) (g : ∀ i, o = some i → A) : (0 ≤ cq_oI o → A) ∧ (¬ 0 ≤ cq_oI o → B) := by
  cases o with
  | none => exact br_f (by decide) (f rfl)
  | some i => exact br_t (nI_pos' (ho i rfl)) (g i rfl)
theorem cq_rA (f : Nat → Nat) {x : Nat} (h : x < 2 ^ 31) : cq_A f (nI x).toNatClampNeg = nI (f x) := by
  rw [nI_clamp h]
  rfl
theorem cq_rP0 (p : Nat → Nat) : cq_P p (nI 0).toNatClampNeg = -1 := by
  rw [nI_clamp (by decide)]
  rfl
theorem cq_rPp (p : Nat → Nat) {x : Nat} (h0 : x ≠ 0) (h : x < 2 ^ 31) : cq_P p (nI x).toNatClampNeg = nI (p x) := by
  rw [nI_clamp h]
  exact cq_P_p h0
theorem cq_rV (lv : Nat → Bool) {x : Nat} (h : x < 2 ^ 31) : cq_V lv (nI x).toNatClampNeg = cq_bI (lv x) := by
  rw [nI_clamp h]
  rfl
theorem cq_ix (x k : Nat) : nI x * 4 + nI k = nI (x * 4 + k) := by
  rw [← nI_add, ← pk_mul]
  rfl
theorem cq_s1 {a b : Nat} (ha : a ≤ 64) (hb : b ≤ 64) : (nI a - nI b ≤ 0) ↔ a ≤ b := by
  constructor
  · intro h
    apply Nat.le_of_not_lt
    intro hl
    rw [pk_sub (by omega)] at h
    exact nI_nle (by omega) (by omega) h
  · intro h
    by_cases e : a = b
    · subst e
      rw [pk_sub (Nat.le_refl _), Nat.sub_self]
      decide
    · exact Int32.le_of_lt (pk_sneg (by omega) (by omega))
