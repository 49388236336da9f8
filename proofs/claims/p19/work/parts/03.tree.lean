/-! the tree: a parent has a smaller number -/
def cq_T (p : Nat → Nat) (n : Nat) : Prop := ∀ q, 1 ≤ q → q < n → p q < q
/-- does some queue on the way from x up to the root satisfy s -/
def cq_pf (p : Nat → Nat) (s : Nat → Bool) : Nat → Nat → Bool
  | 0, _ => false
  | f + 1, x => s x || (!(x == 0) && cq_pf p s f (p x))
theorem cq_pf_s (p : Nat → Nat) (s : Nat → Bool) (f x : Nat) : cq_pf p s (f + 1) x = (s x || (!(x == 0) && cq_pf p s f (p x))) := rfl
def cq_ex (p : Nat → Nat) (s : Nat → Bool) (x : Nat) : Bool := cq_pf p s (x + 1) x
def cq_un (p : Nat → Nat) (x a : Nat) : Bool := cq_ex p (fun y => y == a) x
theorem cq_pf_st {p : Nat → Nat} {n : Nat} (hT : cq_T p n) (s : Nat → Bool) : ∀ f f' x, x < f → x < f' → x < n → cq_pf p s f x = cq_pf p s f' x := by
  intro f
  induction f with
  | zero =>
    intro f' x h
    omega
  | succ f ih =>
    intro f' x h h' hn
    cases f' with
    | zero => omega
    | succ f' =>
      rw [cq_pf_s, cq_pf_s]
      by_cases e : x = 0
      · subst e
        rfl
      · have := hT x (by omega) hn
        rw [ih f' (p x) (by omega) (by omega) (by omega)]
theorem cq_ex_0 (p : Nat → Nat) (s : Nat → Bool) : cq_ex p s 0 = s 0 := by
  unfold cq_ex
  rw [cq_pf_s]
  simp
theorem cq_ex_p {p : Nat → Nat} {n : Nat} (hT : cq_T p n) (s : Nat → Bool) {x : Nat} (h0 : x ≠ 0) (hx : x < n) : cq_ex p s x = (s x || cq_ex p s (p x)) := by
  have := hT x (by omega) hx
  unfold cq_ex
  rw [cq_pf_s, cq_pf_st hT s x (p x + 1) (p x) (by omega) (by omega) (by omega)]
  have e : (x == 0) = false := by simpa using h0
  rw [e]
  rfl
theorem cq_ex_st {p : Nat → Nat} {n : Nat} (hT : cq_T p n) {s : Nat → Bool} {x : Nat} (hx : x < n) (h : s x = true) : cq_ex p s x = true := by
  by_cases e : x = 0
  · subst e
    rw [cq_ex_0]
    exact h
  · rw [cq_ex_p hT s e hx, h]
    rfl
theorem cq_pf_congr {p p' : Nat → Nat} {n : Nat} (hT : cq_T p n) (he : ∀ q, q < n → p' q = p q) {s s' : Nat → Bool} (hs : ∀ q, q < n → s' q = s q) : ∀ f x, x < n → cq_pf p' s' f x = cq_pf p s f x := by
  intro f
  induction f with
  | zero =>
    intro x _
    rfl
  | succ f ih =>
    intro x hx
    rw [cq_pf_s, cq_pf_s, he x hx, hs x hx]
    by_cases e : x = 0
    · subst e
      rfl
    · have := hT x (by omega) hx
      rw [ih (p x) (by omega)]
theorem cq_un_congr {p p' : Nat → Nat} {n : Nat} (hT : cq_T p n) (he : ∀ q, q < n → p' q = p q) {x a : Nat} (hx : x < n) : cq_un p' x a = cq_un p x a :=
  cq_pf_congr hT he (fun _ _ => rfl) _ x hx
theorem cq_un_self (p : Nat → Nat) (x : Nat) : cq_un p x x = true := by
  unfold cq_un cq_ex
  rw [cq_pf_s]
  simp
theorem cq_un_00 (p : Nat → Nat) (a : Nat) : cq_un p 0 a = (0 == a) := cq_ex_0 p _
theorem cq_un_p {p : Nat → Nat} {n : Nat} (hT : cq_T p n) {x a : Nat} (h0 : x ≠ 0) (hx : x < n) : cq_un p x a = ((x == a) || cq_un p (p x) a) := cq_ex_p hT _ h0 hx
theorem cq_un_ne {p : Nat → Nat} {n : Nat} (hT : cq_T p n) {x a : Nat} (h0 : x ≠ 0) (hx : x < n) (ha : x ≠ a) : cq_un p x a = cq_un p (p x) a := by
  rw [cq_un_p hT h0 hx]
  have e : (x == a) = false := by simpa using ha
  rw [e]
  rfl
theorem cq_un_le {p : Nat → Nat} {n : Nat} (hT : cq_T p n) : ∀ d x a, x < d → x < n → cq_un p x a = true → a ≤ x := by
  intro d
  induction d with
  | zero =>
    intro x a h
    omega
  | succ d ih =>
    intro x a hd hx h
    by_cases e : x = 0
    · subst e
      rw [cq_un_00] at h
      have : 0 = a := by simpa using h
      omega
    · have hp := hT x (by omega) hx
      by_cases q : x = a
      · omega
      · rw [cq_un_ne hT e hx q] at h
        have := ih (p x) a (by omega) (by omega) h
        omega
theorem cq_un_gt {p : Nat → Nat} {n : Nat} (hT : cq_T p n) {x a : Nat} (hx : x < n) (ha : x < a) : cq_un p x a = false := by
  cases h : cq_un p x a with
  | false => rfl
  | true =>
    have := cq_un_le hT (x + 1) x a (by omega) hx h
    omega
theorem cq_un_rt {p : Nat → Nat} {n : Nat} (hT : cq_T p n) : ∀ d x, x < d → x < n → cq_un p x 0 = true := by
  intro d
  induction d with
  | zero =>
    intro x h
    omega
  | succ d ih =>
    intro x hd hx
    by_cases e : x = 0
    · subst e
      exact cq_un_self p 0
    · have hp := hT x (by omega) hx
      rw [cq_un_ne hT e hx e]
      exact ih (p x) (by omega) (by omega)
theorem cq_un_tr {p : Nat → Nat} {n : Nat} (hT : cq_T p n) {j : Nat} (hj : j ≠ 0) : ∀ d x, x < d → x < n → cq_un p x j = true → cq_un p x (p j) = true := by
  intro d
  induction d with
  | zero =>
    intro x h
    omega
  | succ d ih =>
    intro x hd hx h
    by_cases e : x = 0
    · subst e
      rw [cq_un_00] at h
      have : 0 = j := by simpa using h
      omega
    · have hp := hT x (by omega) hx
      by_cases q : x = j
      · subst q
        rw [cq_un_p hT e hx, cq_un_self]
        simp
      · rw [cq_un_ne hT e hx q] at h
        rw [cq_un_p hT e hx, ih (p x) (by omega) (by omega) h]
        simp
theorem cq_un_ch {p : Nat → Nat} {n : Nat} (hT : cq_T p n) {q : Nat} : ∀ d x, x < d → x < n → cq_un p x q = true → x ≠ q → ∃ j, j ≠ 0 ∧ j < n ∧ p j = q ∧ cq_un p x j = true := by
  intro d
  induction d with
  | zero =>
    intro x h
    omega
  | succ d ih =>
    intro x hd hx h hq
    by_cases e : x = 0
    · subst e
      rw [cq_un_00] at h
      have : 0 = q := by simpa using h
      omega
    · have hp := hT x (by omega) hx
      rw [cq_un_ne hT e hx hq] at h
      by_cases w : p x = q
      · exact ⟨x, e, hx, w, cq_un_self p x⟩
      · obtain ⟨j, a, b, c, f⟩ := ih (p x) (by omega) (by omega) h w
        refine ⟨j, a, b, c, ?_⟩
        rw [cq_un_p hT e hx, f]
        simp
/-! what the arrays hold -/
def cq_cc (p : Nat → Nat) (n q : Nat) : Nat := cq_cnt (fun j => !(j == 0) && (p j == q)) n
def cq_us (p cl : Nat → Nat) (lv : Nat → Bool) (q : Nat) : Nat := cq_cnt (fun i => lv i && cq_un p (cl i) q) 64
def cq_hs (cl cu : Nat → Nat) (lv : Nat → Bool) (j : Nat) : Nat := cq_cnt (fun i => lv i && (cl i * 4 + cu i == j)) 64
def cq_cs (p g : Nat → Nat) (q : Nat) : Nat → Nat
  | 0 => 0
  | j + 1 => cq_cs p g q j + (if !(j == 0) && (p j == q) then g j else 0)
def cq_ck (p g : Nat → Nat) (q s : Nat) : Nat → Nat
  | 0 => 0
  | j + 1 => cq_ck p g q s j + (if !(j == 0) && (p j == q) && !(j == s) then g j else 0)
def cq_E (r h : Nat → Nat) (l x : Nat) : Nat → Nat
  | 0 => 0
  | k + 1 => cq_E r h l x k + min (r (x * 4 + k)) (l - h (x * 4 + k))
def cq_rm (p m u : Nat → Nat) (x : Nat) : Bool := !(cq_ex p (fun y => decide (m y ≤ u y)) x)
def cq_el (p m u r h : Nat → Nat) (l n x : Nat) : Bool := decide (cq_cc p n x = 0) && decide (0 < cq_E r h l x 4) && cq_rm p m u x
def cq_op (p m u r h : Nat → Nat) (l n q : Nat) : Bool := cq_any (fun x => cq_un p x q && cq_el p m u r h l n x) n
def cq_lt (g u : Nat → Nat) (a b : Nat) : Bool := if 0 < g a then (if 0 < g b then decide (u a * g b < u b * g a) else true) else (if 0 < g b then false else decide (u a < u b))
theorem cq_lt_as (g u : Nat → Nat) (x y : Nat) (h : cq_lt g u x y = true) : cq_lt g u y x = false := by
  unfold cq_lt at h ⊢
  by_cases hx : 0 < g x <;> by_cases hy : 0 < g y <;> simp [hx, hy] at h ⊢ <;> omega
theorem cq_lt_nt (g u : Nat → Nat) (x y z : Nat) (h : cq_lt g u x y = false) (h' : cq_lt g u y z = false) : cq_lt g u x z = false := by
  unfold cq_lt at h h' ⊢
  by_cases hx : 0 < g x <;> by_cases hy : 0 < g y <;> by_cases hz : 0 < g z <;> simp [hx, hy, hz] at h h' ⊢
  · have a1 : u y * g x * g z ≤ u x * g y * g z := Nat.mul_le_mul_right _ h
    have a2 : u z * g y * g x ≤ u y * g z * g x := Nat.mul_le_mul_right _ h'
    have a3 : u z * g x * g y ≤ u x * g z * g y := by
      have b1 : u z * g x * g y = u z * g y * g x := by rw [Nat.mul_assoc, Nat.mul_assoc, Nat.mul_comm (g x)]
      have b2 : u y * g z * g x = u y * g x * g z := by rw [Nat.mul_assoc, Nat.mul_assoc, Nat.mul_comm (g z)]
      have b3 : u x * g z * g y = u x * g y * g z := by rw [Nat.mul_assoc, Nat.mul_assoc, Nat.mul_comm (g z)]
      omega
    exact Nat.le_of_mul_le_mul_right a3 hy
  · omega
theorem cq_cc_0 {p : Nat → Nat} {n q : Nat} (h : cq_cc p n q = 0) {j : Nat} (h0 : j ≠ 0) (hj : j < n) : p j ≠ q := by
  intro e
  have : 0 < cq_cc p n q := cq_cnt_pos hj (by simp [h0, e])
  omega
theorem cq_cc_p {p : Nat → Nat} {n q : Nat} (h : cq_cc p n q ≠ 0) : ∃ j, j ≠ 0 ∧ j < n ∧ p j = q := by
  obtain ⟨j, hj, e⟩ := cq_cnt_ex (f := fun j => !(j == 0) && (p j == q)) (n := n) (Nat.pos_of_ne_zero h)
  have e' : j ≠ 0 ∧ p j = q := by simpa using e
  exact ⟨j, e'.1, hj, e'.2⟩
theorem cq_el_cc {p m u r h : Nat → Nat} {l n x : Nat} (e : cq_el p m u r h l n x = true) : cq_cc p n x = 0 ∧ 0 < cq_E r h l x 4 ∧ cq_rm p m u x = true := by
  unfold cq_el at e
  simp only [Bool.and_eq_true, decide_eq_true_eq] at e
  exact ⟨e.1.1, e.1.2, e.2⟩
/-- a leaf is open if it is eligible -/
theorem cq_op_leaf {p m u r h : Nat → Nat} {l n q : Nat} (hT : cq_T p n) (hq : q < n) (hc : cq_cc p n q = 0) : cq_op p m u r h l n q = cq_el p m u r h l n q := by
  cases e : cq_el p m u r h l n q with
  | true => exact cq_any_iff.mpr ⟨q, hq, by simp [cq_un_self, e]⟩
  | false =>
    refine cq_any_f fun x hx => ?_
    show (cq_un p x q && cq_el p m u r h l n x) = false
    by_cases w : x = q
    · subst w
      rw [e, Bool.and_false]
    · cases z : cq_un p x q with
      | false => rfl
      | true =>
        obtain ⟨j, a, b, c, _⟩ := cq_un_ch hT (x + 1) x (by omega) hx z w
        exact absurd c (cq_cc_0 hc a b)
/-- an inner queue is open if a child of it is -/
theorem cq_op_in {p m u r h : Nat → Nat} {l n q : Nat} (hT : cq_T p n) (hc : cq_cc p n q ≠ 0) : cq_op p m u r h l n q = true ↔ ∃ j, j ≠ 0 ∧ j < n ∧ p j = q ∧ cq_op p m u r h l n j = true := by
  constructor
  · intro e
    obtain ⟨x, hx, hh⟩ := cq_any_iff.mp e
    simp only [Bool.and_eq_true] at hh
    have w : x ≠ q := by
      intro w
      subst w
      exact hc (cq_el_cc hh.2).1
    obtain ⟨j, a, b, c, d⟩ := cq_un_ch hT (x + 1) x (by omega) hx hh.1 w
    exact ⟨j, a, b, c, cq_any_iff.mpr ⟨x, hx, by simp [d, hh.2]⟩⟩
  · rintro ⟨j, a, b, c, d⟩
    obtain ⟨x, hx, hh⟩ := cq_any_iff.mp d
    simp only [Bool.and_eq_true] at hh
    refine cq_any_iff.mpr ⟨x, hx, ?_⟩
    have := cq_un_tr hT a (x + 1) x (by omega) hx hh.1
    rw [c] at this
    simp [this, hh.2]
theorem cq_us_le (p cl : Nat → Nat) (lv : Nat → Bool) (q : Nat) : cq_us p cl lv q ≤ 64 := cq_cnt_le _ _
theorem cq_hs_le (cl cu : Nat → Nat) (lv : Nat → Bool) (j : Nat) : cq_hs cl cu lv j ≤ 64 := cq_cnt_le _ _
theorem cq_cc_le (p : Nat → Nat) (n q : Nat) : cq_cc p n q ≤ n := cq_cnt_le _ _
theorem cq_cs_le {p g : Nat → Nat} (hg : ∀ q, g q ≤ 64) (q n : Nat) : cq_cs p g q n ≤ 64 * n := by
  induction n with
  | zero => exact Nat.le_refl 0
  | succ n ih =>
    have := hg n
    show cq_cs p g q n + _ ≤ _
    split <;> omega
theorem cq_ck_le {p g : Nat → Nat} (hg : ∀ q, g q ≤ 64) (q s n : Nat) : cq_ck p g q s n ≤ 64 * n := by
  induction n with
  | zero => exact Nat.le_refl 0
  | succ n ih =>
    have := hg n
    show cq_ck p g q s n + _ ≤ _
    split <;> omega
theorem cq_ck_lo {p g : Nat → Nat} {q s n : Nat} (h : n ≤ s) : cq_ck p g q s n = cq_cs p g q n := by
  induction n with
  | zero => rfl
  | succ n ih =>
    show cq_ck p g q s n + _ = cq_cs p g q n + _
    have e : (n == s) = false := by simp; omega
    rw [ih (by omega), e, Bool.not_false, Bool.and_true]
theorem cq_ck_hi {p g : Nat → Nat} {q s n : Nat} (h : s < n) (h0 : s ≠ 0) (hp : p s = q) : cq_cs p g q n = cq_ck p g q s n + g s := by
  induction n with
  | zero => omega
  | succ n ih =>
    show cq_cs p g q n + _ = cq_ck p g q s n + _ + g s
    by_cases e : s = n
    · subst e
      rw [cq_ck_lo (Nat.le_refl s)]
      simp [h0, hp]
    · have e' : (n == s) = false := by simp; omega
      rw [ih (by omega), e', Bool.not_false, Bool.and_true]
      omega
theorem cq_E_s (r h : Nat → Nat) (l x k : Nat) : cq_E r h l x (k + 1) = cq_E r h l x k + min (r (x * 4 + k)) (l - h (x * 4 + k)) := rfl
theorem cq_E_le (r h : Nat → Nat) (l x k : Nat) : cq_E r h l x k ≤ l * k := by
  induction k with
  | zero => exact Nat.zero_le _
  | succ k ih =>
    rw [cq_E_s, Nat.mul_succ l k]
    have : min (r (x * 4 + k)) (l - h (x * 4 + k)) ≤ l := Nat.le_trans (Nat.min_le_right _ _) (Nat.sub_le _ _)
    omega
theorem cq_E_ex {r h : Nat → Nat} {l x k : Nat} (e : 0 < cq_E r h l x k) : ∃ j, j < k ∧ 0 < r (x * 4 + j) ∧ h (x * 4 + j) < l := by
  induction k with
  | zero => exact absurd e (by simp [cq_E])
  | succ k ih =>
    have e' : 0 < cq_E r h l x k + min (r (x * 4 + k)) (l - h (x * 4 + k)) := e
    by_cases z : 0 < cq_E r h l x k
    · obtain ⟨j, a, b⟩ := ih z
      exact ⟨j, by omega, b⟩
    · exact ⟨k, by omega, by omega, by omega⟩
