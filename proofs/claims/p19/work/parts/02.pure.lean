/-! counts, searches, folds: no program here -/
def cq_bI (b : Bool) : Int32 := match b with
  | true => 1
  | false => 0
def cq_oI (o : Option Nat) : Int32 := match o with
  | none => -1
  | some i => nI i
def cq_cnt (f : Nat → Bool) : Nat → Nat
  | 0 => 0
  | n + 1 => cq_cnt f n + (if f n then 1 else 0)
theorem cq_cnt_s (f : Nat → Bool) (n : Nat) : cq_cnt f (n + 1) = cq_cnt f n + (if f n then 1 else 0) := rfl
theorem cq_cnt_le (f : Nat → Bool) (n : Nat) : cq_cnt f n ≤ n := by
  induction n with
  | zero => exact Nat.le_refl 0
  | succ n ih =>
    rw [cq_cnt_s]
    split <;> omega
theorem cq_cnt_congr {f f' : Nat → Bool} {n : Nat} (h : ∀ i, i < n → f' i = f i) : cq_cnt f' n = cq_cnt f n := by
  induction n with
  | zero => rfl
  | succ n ih =>
    rw [cq_cnt_s, cq_cnt_s, ih (fun i hi => h i (by omega)), h n (by omega)]
theorem cq_cnt_set {f f' : Nat → Bool} {s n : Nat} (h : ∀ i, i ≠ s → f' i = f i) (hs : f s = false) (hn : s < n) : cq_cnt f' n = cq_cnt f n + (if f' s then 1 else 0) := by
  induction n with
  | zero => omega
  | succ n ih =>
    rw [cq_cnt_s, cq_cnt_s]
    by_cases e : s = n
    · subst e
      rw [cq_cnt_congr (f := f) (fun i hi => h i (by omega)), hs]
      simp
    · rw [ih (by omega), h n (by omega)]
      omega
theorem cq_cnt_0 {f : Nat → Bool} {n : Nat} (h : ∀ i, i < n → f i = false) : cq_cnt f n = 0 := by
  induction n with
  | zero => rfl
  | succ n ih =>
    rw [cq_cnt_s, ih (fun i hi => h i (by omega)), h n (by omega)]
    rfl
theorem cq_cnt_pos {f : Nat → Bool} {i n : Nat} (hi : i < n) (h : f i = true) : 0 < cq_cnt f n := by
  induction n with
  | zero => omega
  | succ n ih =>
    rw [cq_cnt_s]
    by_cases e : i = n
    · subst e
      rw [h]
      simp
    · have := ih (by omega)
      omega
theorem cq_cnt_ex {f : Nat → Bool} {n : Nat} (h : 0 < cq_cnt f n) : ∃ i, i < n ∧ f i = true := by
  induction n with
  | zero => exact absurd h (Nat.lt_irrefl 0)
  | succ n ih =>
    rw [cq_cnt_s] at h
    by_cases e : f n = true
    · exact ⟨n, by omega, e⟩
    · rw [if_neg e] at h
      obtain ⟨i, hi, hf⟩ := ih (by omega)
      exact ⟨i, by omega, hf⟩
theorem cq_cnt_room {f : Nat → Bool} {n : Nat} (h : cq_cnt f n < n) : ∃ i, i < n ∧ f i = false := by
  induction n with
  | zero => omega
  | succ n ih =>
    rw [cq_cnt_s] at h
    by_cases e : f n = true
    · rw [if_pos e] at h
      obtain ⟨i, hi, hf⟩ := ih (by omega)
      exact ⟨i, by omega, hf⟩
    · exact ⟨n, by omega, by simpa using e⟩
def cq_any (f : Nat → Bool) : Nat → Bool
  | 0 => false
  | n + 1 => cq_any f n || f n
theorem cq_any_iff {f : Nat → Bool} {n : Nat} : cq_any f n = true ↔ ∃ i, i < n ∧ f i = true := by
  induction n with
  | zero =>
    constructor
    · intro h
      exact absurd h (by simp [cq_any])
    · rintro ⟨i, hi, _⟩
      omega
  | succ n ih =>
    show (cq_any f n || f n) = true ↔ _
    rw [Bool.or_eq_true, ih]
    constructor
    · rintro (⟨i, hi, hf⟩ | hf)
      · exact ⟨i, by omega, hf⟩
      · exact ⟨n, by omega, hf⟩
    · rintro ⟨i, hi, hf⟩
      by_cases e : i = n
      · subst e
        exact Or.inr hf
      · exact Or.inl ⟨i, by omega, hf⟩
theorem cq_any_f {f : Nat → Bool} {n : Nat} (h : ∀ i, i < n → f i = false) : cq_any f n = false := by
  cases e : cq_any f n with
  | false => rfl
  | true =>
    obtain ⟨i, hi, hf⟩ := cq_any_iff.mp e
    rw [h i hi] at hf
    exact absurd hf (by decide)
/-- the first i' in [i, i + d) with f -/
def cq_fnd (f : Nat → Bool) : Nat → Nat → Option Nat
  | _, 0 => none
  | i, d + 1 => if f i then some i else cq_fnd f (i + 1) d
theorem cq_fnd_s (f : Nat → Bool) (i d : Nat) : cq_fnd f i (d + 1) = if f i then some i else cq_fnd f (i + 1) d := rfl
theorem cq_fnd_some {f : Nat → Bool} : ∀ {d i j : Nat}, cq_fnd f i d = some j → f j = true ∧ i ≤ j ∧ j < i + d := by
  intro d
  induction d with
  | zero =>
    intro i j h
    exact absurd h (by simp [cq_fnd])
  | succ d ih =>
    intro i j h
    rw [cq_fnd_s] at h
    by_cases e : f i = true
    · rw [if_pos e] at h
      cases h
      exact ⟨e, by omega, by omega⟩
    · rw [if_neg e] at h
      obtain ⟨a, b, c⟩ := ih h
      exact ⟨a, by omega, by omega⟩
theorem cq_fnd_none {f : Nat → Bool} : ∀ {d i : Nat}, cq_fnd f i d = none → ∀ j, i ≤ j → j < i + d → f j = false := by
  intro d
  induction d with
  | zero =>
    intro i _ j h1 h2
    omega
  | succ d ih =>
    intro i h j h1 h2
    rw [cq_fnd_s] at h
    by_cases e : f i = true
    · rw [if_pos e] at h
      exact absurd h (by simp)
    · rw [if_neg e] at h
      by_cases e2 : j = i
      · subst e2
        simpa using e
      · exact ih h j (by omega) (by omega)
/-- the scan that keeps its first best -/
def cq_fo (e : Nat → Bool) (b : Nat → Nat → Bool) : Nat → Option Nat
  | 0 => none
  | i + 1 => match cq_fo e b i with
    | none => if e i then some i else none
    | some j => if e i && b i j then some i else some j
theorem cq_fo_sn {e : Nat → Bool} {b : Nat → Nat → Bool} {i : Nat} (h : cq_fo e b i = none) : cq_fo e b (i + 1) = if e i then some i else none := by
  simp only [cq_fo, h]
theorem cq_fo_ss {e : Nat → Bool} {b : Nat → Nat → Bool} {i j : Nat} (h : cq_fo e b i = some j) : cq_fo e b (i + 1) = if e i && b i j then some i else some j := by
  simp only [cq_fo, h]
theorem cq_fo_k {e : Nat → Bool} {b : Nat → Nat → Bool} {i : Nat} (h : e i = false) : cq_fo e b (i + 1) = cq_fo e b i := by
  cases hf : cq_fo e b i with
  | none => rw [cq_fo_sn hf, h]; rfl
  | some j => rw [cq_fo_ss hf, h]; rfl
theorem cq_fo_lt {e : Nat → Bool} {b : Nat → Nat → Bool} : ∀ {i j : Nat}, cq_fo e b i = some j → j < i ∧ e j = true := by
  intro i
  induction i with
  | zero =>
    intro j h
    exact absurd h (by simp [cq_fo])
  | succ i ih =>
    intro j h
    cases hf : cq_fo e b i with
    | none =>
      rw [cq_fo_sn hf] at h
      by_cases z : e i = true
      · rw [if_pos z] at h
        cases h
        exact ⟨by omega, z⟩
      · rw [if_neg z] at h
        exact absurd h (by simp)
    | some k =>
      rw [cq_fo_ss hf] at h
      by_cases z : (e i && b i k) = true
      · rw [if_pos z] at h
        cases h
        rw [Bool.and_eq_true] at z
        exact ⟨by omega, z.1⟩
      · rw [if_neg z] at h
        cases h
        have := ih hf
        exact ⟨by omega, this.2⟩
theorem cq_fo_none {e : Nat → Bool} {b : Nat → Nat → Bool} : ∀ {i : Nat}, cq_fo e b i = none → ∀ j, j < i → e j = false := by
  intro i
  induction i with
  | zero =>
    intro _ j h
    omega
  | succ i ih =>
    intro h j hj
    cases hf : cq_fo e b i with
    | none =>
      rw [cq_fo_sn hf] at h
      by_cases z : e i = true
      · rw [if_pos z] at h
        exact absurd h (by simp)
      · by_cases q : j = i
        · subst q
          simpa using z
        · exact ih hf j (by omega)
    | some k =>
      rw [cq_fo_ss hf] at h
      by_cases z : (e i && b i k) = true
      · rw [if_pos z] at h
        exact absurd h (by simp)
      · rw [if_neg z] at h
        exact absurd h (by simp)
theorem cq_fo_min {e : Nat → Bool} {b : Nat → Nat → Bool} (ha : ∀ x y, b x y = true → b y x = false) (ht : ∀ x y z, b x y = false → b y z = false → b x z = false) : ∀ {i j : Nat}, cq_fo e b i = some j → (∀ o, o < i → e o = true → b o j = false) ∧ (∀ o, o < j → e o = true → b j o = true) := by
  have hr : ∀ x, b x x = false := by
    intro x
    cases h : b x x with
    | false => rfl
    | true => exact h.symm.trans (ha x x h)
  intro i
  induction i with
  | zero =>
    intro j h
    exact absurd h (by simp [cq_fo])
  | succ i ih =>
    intro j h
    cases hf : cq_fo e b i with
    | none =>
      have hn := cq_fo_none hf
      rw [cq_fo_sn hf] at h
      by_cases z : e i = true
      · rw [if_pos z] at h
        cases h
        refine ⟨fun o ho eo => ?_, fun o ho eo => ?_⟩
        · by_cases q : o = i
          · subst q
            exact hr _
          · rw [hn o (by omega)] at eo
            exact absurd eo (by decide)
        · rw [hn o ho] at eo
          exact absurd eo (by decide)
      · rw [if_neg z] at h
        exact absurd h (by simp)
    | some k =>
      obtain ⟨h1, h2⟩ := ih hf
      rw [cq_fo_ss hf] at h
      by_cases z : (e i && b i k) = true
      · rw [if_pos z] at h
        cases h
        rw [Bool.and_eq_true] at z
        refine ⟨fun o ho eo => ?_, fun o ho eo => ?_⟩
        · by_cases q : o = i
          · subst q
            exact hr _
          · cases w : b o i with
            | false => rfl
            | true =>
              have := ht i o k (ha o i w) (h1 o (by omega) eo)
              rw [this] at z
              exact absurd z.2 (by decide)
        · cases w : b i o with
          | true => rfl
          | false =>
            have := ht i o k w (h1 o ho eo)
            rw [this] at z
            exact absurd z.2 (by decide)
      · rw [if_neg z] at h
        cases h
        refine ⟨fun o ho eo => ?_, h2⟩
        by_cases q : o = i
        · subst q
          rw [eo, Bool.true_and] at z
          simpa using z
        · exact h1 o (by omega) eo
