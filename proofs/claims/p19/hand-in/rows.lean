section
/-! counts, searches, folds: no program here -/
def cq_bI (b : Bool) : Int32 := match b with
  | true => 1
  | false => 0
def cq_oI (o : Option Nat) : Int32 := match o with
  | none => -1
  | some i => nI i
def cq_cnt (f : Nat → Bool) : Nat → Nat
  | 0 => 0
  | n + 1 => cq_cnt f n + (if f n then 1 else 0)
theorem cq_cnt_s (f : Nat → Bool) (n : Nat) : cq_cnt f (n + 1) = cq_cnt f n + (if f n then 1 else 0) := rfl
theorem cq_cnt_le (f : Nat → Bool) (n : Nat) : cq_cnt f n ≤ n := by
  induction n with
  | zero => exact Nat.le_refl 0
  | succ n ih =>
    rw [cq_cnt_s]
    split <;> omega
theorem cq_cnt_congr {f f' : Nat → Bool} {n : Nat} (h : ∀ i, i < n → f' i = f i) : cq_cnt f' n = cq_cnt f n := by
  induction n with
  | zero => rfl
  | succ n ih =>
    rw [cq_cnt_s, cq_cnt_s, ih (fun i hi => h i (by omega)), h n (by omega)]
theorem cq_cnt_set {f f' : Nat → Bool} {s n : Nat} (h : ∀ i, i ≠ s → f' i = f i) (hs : f s = false) (hn : s < n) : cq_cnt f' n = cq_cnt f n + (if f' s then 1 else 0) := by
  induction n with
  | zero => omega
  | succ n ih =>
    rw [cq_cnt_s, cq_cnt_s]
    by_cases e : s = n
    · subst e
      rw [cq_cnt_congr (f := f) (fun i hi => h i (by omega)), hs]
      simp
    · rw [ih (by omega), h n (by omega)]
      omega
theorem cq_cnt_0 {f : Nat → Bool} {n : Nat} (h : ∀ i, i < n → f i = false) : cq_cnt f n = 0 := by
  induction n with
  | zero => rfl
  | succ n ih =>
    rw [cq_cnt_s, ih (fun i hi => h i (by omega)), h n (by omega)]
    rfl
theorem cq_cnt_pos {f : Nat → Bool} {i n : Nat} (hi : i < n) (h : f i = true) : 0 < cq_cnt f n := by
  induction n with
  | zero => omega
  | succ n ih =>
    rw [cq_cnt_s]
    by_cases e : i = n
    · subst e
      rw [h]
      simp
    · have := ih (by omega)
      omega
theorem cq_cnt_ex {f : Nat → Bool} {n : Nat} (h : 0 < cq_cnt f n) : ∃ i, i < n ∧ f i = true := by
  induction n with
  | zero => exact absurd h (Nat.lt_irrefl 0)
  | succ n ih =>
    rw [cq_cnt_s] at h
    by_cases e : f n = true
    · exact ⟨n, by omega, e⟩
    · rw [if_neg e] at h
      obtain ⟨i, hi, hf⟩ := ih (by omega)
      exact ⟨i, by omega, hf⟩
theorem cq_cnt_room {f : Nat → Bool} {n : Nat} (h : cq_cnt f n < n) : ∃ i, i < n ∧ f i = false := by
  induction n with
  | zero => omega
  | succ n ih =>
    rw [cq_cnt_s] at h
    by_cases e : f n = true
    · rw [if_pos e] at h
      obtain ⟨i, hi, hf⟩ := ih (by omega)
      exact ⟨i, by omega, hf⟩
    · exact ⟨n, by omega, by simpa using e⟩
def cq_any (f : Nat → Bool) : Nat → Bool
  | 0 => false
  | n + 1 => cq_any f n || f n
theorem cq_any_iff {f : Nat → Bool} {n : Nat} : cq_any f n = true ↔ ∃ i, i < n ∧ f i = true := by
  induction n with
  | zero =>
    constructor
    · intro h
      exact absurd h (by simp [cq_any])
    · rintro ⟨i, hi, _⟩
      omega
  | succ n ih =>
    show (cq_any f n || f n) = true ↔ _
    rw [Bool.or_eq_true, ih]
    constructor
    · rintro (⟨i, hi, hf⟩ | hf)
      · exact ⟨i, by omega, hf⟩
      · exact ⟨n, by omega, hf⟩
    · rintro ⟨i, hi, hf⟩
      by_cases e : i = n
      · subst e
        exact Or.inr hf
      · exact Or.inl ⟨i, by omega, hf⟩
theorem cq_any_f {f : Nat → Bool} {n : Nat} (h : ∀ i, i < n → f i = false) : cq_any f n = false := by
  cases e : cq_any f n with
  | false => rfl
  | true =>
    obtain ⟨i, hi, hf⟩ := cq_any_iff.mp e
    rw [h i hi] at hf
    exact absurd hf (by decide)
/-- the first i' in [i, i + d) with f -/
def cq_fnd (f : Nat → Bool) : Nat → Nat → Option Nat
  | _, 0 => none
  | i, d + 1 => if f i then some i else cq_fnd f (i + 1) d
theorem cq_fnd_s (f : Nat → Bool) (i d : Nat) : cq_fnd f i (d + 1) = if f i then some i else cq_fnd f (i + 1) d := rfl
theorem cq_fnd_some {f : Nat → Bool} : ∀ {d i j : Nat}, cq_fnd f i d = some j → f j = true ∧ i ≤ j ∧ j < i + d := by
  intro d
  induction d with
  | zero =>
    intro i j h
    exact absurd h (by simp [cq_fnd])
  | succ d ih =>
    intro i j h
    rw [cq_fnd_s] at h
    by_cases e : f i = true
    · rw [if_pos e] at h
      cases h
      exact ⟨e, by omega, by omega⟩
    · rw [if_neg e] at h
      obtain ⟨a, b, c⟩ := ih h
      exact ⟨a, by omega, by omega⟩
theorem cq_fnd_none {f : Nat → Bool} : ∀ {d i : Nat}, cq_fnd f i d = none → ∀ j, i ≤ j → j < i + d → f j = false := by
  intro d
  induction d with
  | zero =>
    intro i _ j h1 h2
    omega
  | succ d ih =>
    intro i h j h1 h2
    rw [cq_fnd_s] at h
    by_cases e : f i = true
    · rw [if_pos e] at h
      exact absurd h (by simp)
    · rw [if_neg e] at h
      by_cases e2 : j = i
      · subst e2
        simpa using e
      · exact ih h j (by omega) (by omega)
/-- the scan that keeps its first best -/
def cq_fo (e : Nat → Bool) (b : Nat → Nat → Bool) : Nat → Option Nat
  | 0 => none
  | i + 1 => match cq_fo e b i with
    | none => if e i then some i else none
    | some j => if e i && b i j then some i else some j
theorem cq_fo_sn {e : Nat → Bool} {b : Nat → Nat → Bool} {i : Nat} (h : cq_fo e b i = none) : cq_fo e b (i + 1) = if e i then some i else none := by
  simp only [cq_fo, h]
theorem cq_fo_ss {e : Nat → Bool} {b : Nat → Nat → Bool} {i j : Nat} (h : cq_fo e b i = some j) : cq_fo e b (i + 1) = if e i && b i j then some i else some j := by
  simp only [cq_fo, h]
theorem cq_fo_k {e : Nat → Bool} {b : Nat → Nat → Bool} {i : Nat} (h : e i = false) : cq_fo e b (i + 1) = cq_fo e b i := by
  cases hf : cq_fo e b i with
  | none => rw [cq_fo_sn hf, h]; rfl
  | some j => rw [cq_fo_ss hf, h]; rfl
theorem cq_fo_lt {e : Nat → Bool} {b : Nat → Nat → Bool} : ∀ {i j : Nat}, cq_fo e b i = some j → j < i ∧ e j = true := by
  intro i
  induction i with
  | zero =>
    intro j h
    exact absurd h (by simp [cq_fo])
  | succ i ih =>
    intro j h
    cases hf : cq_fo e b i with
    | none =>
      rw [cq_fo_sn hf] at h
      by_cases z : e i = true
      · rw [if_pos z] at h
        cases h
        exact ⟨by omega, z⟩
      · rw [if_neg z] at h
        exact absurd h (by simp)
    | some k =>
      rw [cq_fo_ss hf] at h
      by_cases z : (e i && b i k) = true
      · rw [if_pos z] at h
        cases h
        rw [Bool.and_eq_true] at z
        exact ⟨by omega, z.1⟩
      · rw [if_neg z] at h
        cases h
        have := ih hf
        exact ⟨by omega, this.2⟩
theorem cq_fo_none {e : Nat → Bool} {b : Nat → Nat → Bool} : ∀ {i : Nat}, cq_fo e b i = none → ∀ j, j < i → e j = false := by
  intro i
  induction i with
  | zero =>
    intro _ j h
    omega
  | succ i ih =>
    intro h j hj
    cases hf : cq_fo e b i with
    | none =>
      rw [cq_fo_sn hf] at h
      by_cases z : e i = true
      · rw [if_pos z] at h
        exact absurd h (by simp)
      · by_cases q : j = i
        · subst q
          simpa using z
        · exact ih hf j (by omega)
    | some k =>
      rw [cq_fo_ss hf] at h
      by_cases z : (e i && b i k) = true
      · rw [if_pos z] at h
        exact absurd h (by simp)
      · rw [if_neg z] at h
        exact absurd h (by simp)
theorem cq_fo_min {e : Nat → Bool} {b : Nat → Nat → Bool} (ha : ∀ x y, b x y = true → b y x = false) (ht : ∀ x y z, b x y = false → b y z = false → b x z = false) : ∀ {i j : Nat}, cq_fo e b i = some j → (∀ o, o < i → e o = true → b o j = false) ∧ (∀ o, o < j → e o = true → b j o = true) := by
  have hr : ∀ x, b x x = false := by
    intro x
    cases h : b x x with
    | false => rfl
    | true => exact h.symm.trans (ha x x h)
  intro i
  induction i with
  | zero =>
    intro j h
    exact absurd h (by simp [cq_fo])
  | succ i ih =>
    intro j h
    cases hf : cq_fo e b i with
    | none =>
      have hn := cq_fo_none hf
      rw [cq_fo_sn hf] at h
      by_cases z : e i = true
      · rw [if_pos z] at h
        cases h
        refine ⟨fun o ho eo => ?_, fun o ho eo => ?_⟩
        · by_cases q : o = i
          · subst q
            exact hr _
          · rw [hn o (by omega)] at eo
            exact absurd eo (by decide)
        · rw [hn o ho] at eo
          exact absurd eo (by decide)
      · rw [if_neg z] at h
        exact absurd h (by simp)
    | some k =>
      obtain ⟨h1, h2⟩ := ih hf
      rw [cq_fo_ss hf] at h
      by_cases z : (e i && b i k) = true
      · rw [if_pos z] at h
        cases h
        rw [Bool.and_eq_true] at z
        refine ⟨fun o ho eo => ?_, fun o ho eo => ?_⟩
        · by_cases q : o = i
          · subst q
            exact hr _
          · cases w : b o i with
            | false => rfl
            | true =>
              have := ht i o k (ha o i w) (h1 o (by omega) eo)
              rw [this] at z
              exact absurd z.2 (by decide)
        · cases w : b i o with
          | true => rfl
          | false =>
            have := ht i o k w (h1 o ho eo)
            rw [this] at z
            exact absurd z.2 (by decide)
      · rw [if_neg z] at h
        cases h
        refine ⟨fun o ho eo => ?_, h2⟩
        by_cases q : o = i
        · subst q
          rw [eo, Bool.true_and] at z
          simpa using z
        · exact h1 o (by omega) eo
end
section
/-! the tree: a parent has a smaller number -/
def cq_T (p : Nat → Nat) (n : Nat) : Prop := ∀ q, 1 ≤ q → q < n → p q < q
/-- does some queue on the way from x up to the root satisfy s -/
def cq_pf (p : Nat → Nat) (s : Nat → Bool) : Nat → Nat → Bool
  | 0, _ => false
  | f + 1, x => s x || (!(x == 0) && cq_pf p s f (p x))
theorem cq_pf_s (p : Nat → Nat) (s : Nat → Bool) (f x : Nat) : cq_pf p s (f + 1) x = (s x || (!(x == 0) && cq_pf p s f (p x))) := rfl
def cq_ex (p : Nat → Nat) (s : Nat → Bool) (x : Nat) : Bool := cq_pf p s (x + 1) x
def cq_un (p : Nat → Nat) (x a : Nat) : Bool := cq_ex p (fun y => y == a) x
theorem cq_pf_st {p : Nat → Nat} {n : Nat} (hT : cq_T p n) (s : Nat → Bool) : ∀ f f' x, x < f → x < f' → x < n → cq_pf p s f x = cq_pf p s f' x := by
  intro f
  induction f with
  | zero =>
    intro f' x h
    omega
  | succ f ih =>
    intro f' x h h' hn
    cases f' with
    | zero => omega
    | succ f' =>
      rw [cq_pf_s, cq_pf_s]
      by_cases e : x = 0
      · subst e
        rfl
      · have := hT x (by omega) hn
        rw [ih f' (p x) (by omega) (by omega) (by omega)]
theorem cq_ex_0 (p : Nat → Nat) (s : Nat → Bool) : cq_ex p s 0 = s 0 := by
  unfold cq_ex
  rw [cq_pf_s]
  simp
theorem cq_ex_p {p : Nat → Nat} {n : Nat} (hT : cq_T p n) (s : Nat → Bool) {x : Nat} (h0 : x ≠ 0) (hx : x < n) : cq_ex p s x = (s x || cq_ex p s (p x)) := by
  have := hT x (by omega) hx
  unfold cq_ex
  rw [cq_pf_s, cq_pf_st hT s x (p x + 1) (p x) (by omega) (by omega) (by omega)]
  have e : (x == 0) = false := by simpa using h0
  rw [e]
  rfl
theorem cq_ex_st {p : Nat → Nat} {n : Nat} (hT : cq_T p n) {s : Nat → Bool} {x : Nat} (hx : x < n) (h : s x = true) : cq_ex p s x = true := by
  by_cases e : x = 0
  · subst e
    rw [cq_ex_0]
    exact h
  · rw [cq_ex_p hT s e hx, h]
    rfl
theorem cq_pf_congr {p p' : Nat → Nat} {n : Nat} (hT : cq_T p n) (he : ∀ q, q < n → p' q = p q) {s s' : Nat → Bool} (hs : ∀ q, q < n → s' q = s q) : ∀ f x, x < n → cq_pf p' s' f x = cq_pf p s f x := by
  intro f
  induction f with
  | zero =>
    intro x _
    rfl
  | succ f ih =>
    intro x hx
    rw [cq_pf_s, cq_pf_s, he x hx, hs x hx]
    by_cases e : x = 0
    · subst e
      rfl
    · have := hT x (by omega) hx
      rw [ih (p x) (by omega)]
theorem cq_un_congr {p p' : Nat → Nat} {n : Nat} (hT : cq_T p n) (he : ∀ q, q < n → p' q = p q) {x a : Nat} (hx : x < n) : cq_un p' x a = cq_un p x a :=
  cq_pf_congr hT he (fun _ _ => rfl) _ x hx
theorem cq_un_self (p : Nat → Nat) (x : Nat) : cq_un p x x = true := by
  unfold cq_un cq_ex
  rw [cq_pf_s]
  simp
theorem cq_un_00 (p : Nat → Nat) (a : Nat) : cq_un p 0 a = (0 == a) := cq_ex_0 p _
theorem cq_un_p {p : Nat → Nat} {n : Nat} (hT : cq_T p n) {x a : Nat} (h0 : x ≠ 0) (hx : x < n) : cq_un p x a = ((x == a) || cq_un p (p x) a) := cq_ex_p hT _ h0 hx
theorem cq_un_ne {p : Nat → Nat} {n : Nat} (hT : cq_T p n) {x a : Nat} (h0 : x ≠ 0) (hx : x < n) (ha : x ≠ a) : cq_un p x a = cq_un p (p x) a := by
  rw [cq_un_p hT h0 hx]
  have e : (x == a) = false := by simpa using ha
  rw [e]
  rfl
theorem cq_un_le {p : Nat → Nat} {n : Nat} (hT : cq_T p n) : ∀ d x a, x < d → x < n → cq_un p x a = true → a ≤ x := by
  intro d
  induction d with
  | zero =>
    intro x a h
    omega
  | succ d ih =>
    intro x a hd hx h
    by_cases e : x = 0
    · subst e
      rw [cq_un_00] at h
      have : 0 = a := by simpa using h
      omega
    · have hp := hT x (by omega) hx
      by_cases q : x = a
      · omega
      · rw [cq_un_ne hT e hx q] at h
        have := ih (p x) a (by omega) (by omega) h
        omega
theorem cq_un_gt {p : Nat → Nat} {n : Nat} (hT : cq_T p n) {x a : Nat} (hx : x < n) (ha : x < a) : cq_un p x a = false := by
  cases h : cq_un p x a with
  | false => rfl
  | true =>
    have := cq_un_le hT (x + 1) x a (by omega) hx h
    omega
theorem cq_un_rt {p : Nat → Nat} {n : Nat} (hT : cq_T p n) : ∀ d x, x < d → x < n → cq_un p x 0 = true := by
  intro d
  induction d with
  | zero =>
    intro x h
    omega
  | succ d ih =>
    intro x hd hx
    by_cases e : x = 0
    · subst e
      exact cq_un_self p 0
    · have hp := hT x (by omega) hx
      rw [cq_un_ne hT e hx e]
      exact ih (p x) (by omega) (by omega)
theorem cq_un_tr {p : Nat → Nat} {n : Nat} (hT : cq_T p n) {j : Nat} (hj : j ≠ 0) : ∀ d x, x < d → x < n → cq_un p x j = true → cq_un p x (p j) = true := by
  intro d
  induction d with
  | zero =>
    intro x h
    omega
  | succ d ih =>
    intro x hd hx h
    by_cases e : x = 0
    · subst e
      rw [cq_un_00] at h
      have : 0 = j := by simpa using h
      omega
    · have hp := hT x (by omega) hx
      by_cases q : x = j
      · subst q
        rw [cq_un_p hT e hx, cq_un_self]
        simp
      · rw [cq_un_ne hT e hx q] at h
        rw [cq_un_p hT e hx, ih (p x) (by omega) (by omega) h]
        simp
theorem cq_un_ch {p : Nat → Nat} {n : Nat} (hT : cq_T p n) {q : Nat} : ∀ d x, x < d → x < n → cq_un p x q = true → x ≠ q → ∃ j, j ≠ 0 ∧ j < n ∧ p j = q ∧ cq_un p x j = true := by
  intro d
  induction d with
  | zero =>
    intro x h
    omega
  | succ d ih =>
    intro x hd hx h hq
    by_cases e : x = 0
    · subst e
      rw [cq_un_00] at h
      have : 0 = q := by simpa using h
      omega
    · have hp := hT x (by omega) hx
      rw [cq_un_ne hT e hx hq] at h
      by_cases w : p x = q
      · exact ⟨x, e, hx, w, cq_un_self p x⟩
      · obtain ⟨j, a, b, c, f⟩ := ih (p x) (by omega) (by omega) h w
        refine ⟨j, a, b, c, ?_⟩
        rw [cq_un_p hT e hx, f]
        simp
/-! what the arrays hold -/
def cq_cc (p : Nat → Nat) (n q : Nat) : Nat := cq_cnt (fun j => !(j == 0) && (p j == q)) n
def cq_us (p cl : Nat → Nat) (lv : Nat → Bool) (q : Nat) : Nat := cq_cnt (fun i => lv i && cq_un p (cl i) q) 64
def cq_hs (cl cu : Nat → Nat) (lv : Nat → Bool) (j : Nat) : Nat := cq_cnt (fun i => lv i && (cl i * 4 + cu i == j)) 64
def cq_cs (p g : Nat → Nat) (q : Nat) : Nat → Nat
  | 0 => 0
  | j + 1 => cq_cs p g q j + (if !(j == 0) && (p j == q) then g j else 0)
def cq_ck (p g : Nat → Nat) (q s : Nat) : Nat → Nat
  | 0 => 0
  | j + 1 => cq_ck p g q s j + (if !(j == 0) && (p j == q) && !(j == s) then g j else 0)
def cq_E (r h : Nat → Nat) (l x : Nat) : Nat → Nat
  | 0 => 0
  | k + 1 => cq_E r h l x k + min (r (x * 4 + k)) (l - h (x * 4 + k))
def cq_rm (p m u : Nat → Nat) (x : Nat) : Bool := !(cq_ex p (fun y => decide (m y ≤ u y)) x)
def cq_el (p m u r h : Nat → Nat) (l n x : Nat) : Bool := decide (cq_cc p n x = 0) && decide (0 < cq_E r h l x 4) && cq_rm p m u x
def cq_op (p m u r h : Nat → Nat) (l n q : Nat) : Bool := cq_any (fun x => cq_un p x q && cq_el p m u r h l n x) n
def cq_lt (g u : Nat → Nat) (a b : Nat) : Bool := if 0 < g a then (if 0 < g b then decide (u a * g b < u b * g a) else true) else (if 0 < g b then false else decide (u a < u b))
theorem cq_lt_as (g u : Nat → Nat) (x y : Nat) (h : cq_lt g u x y = true) : cq_lt g u y x = false := by
  unfold cq_lt at h ⊢
  by_cases hx : 0 < g x <;> by_cases hy : 0 < g y <;> simp [hx, hy] at h ⊢ <;> omega
theorem cq_lt_nt (g u : Nat → Nat) (x y z : Nat) (h : cq_lt g u x y = false) (h' : cq_lt g u y z = false) : cq_lt g u x z = false := by
  unfold cq_lt at h h' ⊢
  by_cases hx : 0 < g x <;> by_cases hy : 0 < g y <;> by_cases hz : 0 < g z <;> simp [hx, hy, hz] at h h' ⊢
  · have a1 : u y * g x * g z ≤ u x * g y * g z := Nat.mul_le_mul_right _ h
    have a2 : u z * g y * g x ≤ u y * g z * g x := Nat.mul_le_mul_right _ h'
    have a3 : u z * g x * g y ≤ u x * g z * g y := by
      have b1 : u z * g x * g y = u z * g y * g x := by rw [Nat.mul_assoc, Nat.mul_assoc, Nat.mul_comm (g x)]
      have b2 : u y * g z * g x = u y * g x * g z := by rw [Nat.mul_assoc, Nat.mul_assoc, Nat.mul_comm (g z)]
      have b3 : u x * g z * g y = u x * g y * g z := by rw [Nat.mul_assoc, Nat.mul_assoc, Nat.mul_comm (g z)]
      omega
    exact Nat.le_of_mul_le_mul_right a3 hy
  · omega
theorem cq_cc_0 {p : Nat → Nat} {n q : Nat} (h : cq_cc p n q = 0) {j : Nat} (h0 : j ≠ 0) (hj : j < n) : p j ≠ q := by
  intro e
  have : 0 < cq_cc p n q := cq_cnt_pos hj (by simp [h0, e])
  omega
theorem cq_cc_p {p : Nat → Nat} {n q : Nat} (h : cq_cc p n q ≠ 0) : ∃ j, j ≠ 0 ∧ j < n ∧ p j = q := by
  obtain ⟨j, hj, e⟩ := cq_cnt_ex (f := fun j => !(j == 0) && (p j == q)) (n := n) (Nat.pos_of_ne_zero h)
  have e' : j ≠ 0 ∧ p j = q := by simpa using e
  exact ⟨j, e'.1, hj, e'.2⟩
theorem cq_el_cc {p m u r h : Nat → Nat} {l n x : Nat} (e : cq_el p m u r h l n x = true) : cq_cc p n x = 0 ∧ 0 < cq_E r h l x 4 ∧ cq_rm p m u x = true := by
  unfold cq_el at e
  simp only [Bool.and_eq_true, decide_eq_true_eq] at e
  exact ⟨e.1.1, e.1.2, e.2⟩
/-- a leaf is open if it is eligible -/
theorem cq_op_leaf {p m u r h : Nat → Nat} {l n q : Nat} (hT : cq_T p n) (hq : q < n) (hc : cq_cc p n q = 0) : cq_op p m u r h l n q = cq_el p m u r h l n q := by
  cases e : cq_el p m u r h l n q with
  | true => exact cq_any_iff.mpr ⟨q, hq, by simp [cq_un_self, e]⟩
  | false =>
    refine cq_any_f fun x hx => ?_
    show (cq_un p x q && cq_el p m u r h l n x) = false
    by_cases w : x = q
    · subst w
      rw [e, Bool.and_false]
    · cases z : cq_un p x q with
      | false => rfl
      | true =>
        obtain ⟨j, a, b, c, _⟩ := cq_un_ch hT (x + 1) x (by omega) hx z w
        exact absurd c (cq_cc_0 hc a b)
/-- an inner queue is open if a child of it is -/
theorem cq_op_in {p m u r h : Nat → Nat} {l n q : Nat} (hT : cq_T p n) (hc : cq_cc p n q ≠ 0) : cq_op p m u r h l n q = true ↔ ∃ j, j ≠ 0 ∧ j < n ∧ p j = q ∧ cq_op p m u r h l n j = true := by
  constructor
  · intro e
    obtain ⟨x, hx, hh⟩ := cq_any_iff.mp e
    simp only [Bool.and_eq_true] at hh
    have w : x ≠ q := by
      intro w
      subst w
      exact hc (cq_el_cc hh.2).1
    obtain ⟨j, a, b, c, d⟩ := cq_un_ch hT (x + 1) x (by omega) hx hh.1 w
    exact ⟨j, a, b, c, cq_any_iff.mpr ⟨x, hx, by simp [d, hh.2]⟩⟩
  · rintro ⟨j, a, b, c, d⟩
    obtain ⟨x, hx, hh⟩ := cq_any_iff.mp d
    simp only [Bool.and_eq_true] at hh
    refine cq_any_iff.mpr ⟨x, hx, ?_⟩
    have := cq_un_tr hT a (x + 1) x (by omega) hx hh.1
    rw [c] at this
    simp [this, hh.2]
theorem cq_us_le (p cl : Nat → Nat) (lv : Nat → Bool) (q : Nat) : cq_us p cl lv q ≤ 64 := cq_cnt_le _ _
theorem cq_hs_le (cl cu : Nat → Nat) (lv : Nat → Bool) (j : Nat) : cq_hs cl cu lv j ≤ 64 := cq_cnt_le _ _
theorem cq_cc_le (p : Nat → Nat) (n q : Nat) : cq_cc p n q ≤ n := cq_cnt_le _ _
theorem cq_cs_le {p g : Nat → Nat} (hg : ∀ q, g q ≤ 64) (q n : Nat) : cq_cs p g q n ≤ 64 * n := by
  induction n with
  | zero => exact Nat.le_refl 0
  | succ n ih =>
    have := hg n
    show cq_cs p g q n + _ ≤ _
    split <;> omega
theorem cq_ck_le {p g : Nat → Nat} (hg : ∀ q, g q ≤ 64) (q s n : Nat) : cq_ck p g q s n ≤ 64 * n := by
  induction n with
  | zero => exact Nat.le_refl 0
  | succ n ih =>
    have := hg n
    show cq_ck p g q s n + _ ≤ _
    split <;> omega
theorem cq_ck_lo {p g : Nat → Nat} {q s n : Nat} (h : n ≤ s) : cq_ck p g q s n = cq_cs p g q n := by
  induction n with
  | zero => rfl
  | succ n ih =>
    show cq_ck p g q s n + _ = cq_cs p g q n + _
    have e : (n == s) = false := by simp; omega
    rw [ih (by omega), e, Bool.not_false, Bool.and_true]
theorem cq_ck_hi {p g : Nat → Nat} {q s n : Nat} (h : s < n) (h0 : s ≠ 0) (hp : p s = q) : cq_cs p g q n = cq_ck p g q s n + g s := by
  induction n with
  | zero => omega
  | succ n ih =>
    show cq_cs p g q n + _ = cq_ck p g q s n + _ + g s
    by_cases e : s = n
    · subst e
      rw [cq_ck_lo (Nat.le_refl s)]
      simp [h0, hp]
    · have e' : (n == s) = false := by simp; omega
      rw [ih (by omega), e', Bool.not_false, Bool.and_true]
      omega
theorem cq_E_s (r h : Nat → Nat) (l x k : Nat) : cq_E r h l x (k + 1) = cq_E r h l x k + min (r (x * 4 + k)) (l - h (x * 4 + k)) := rfl
theorem cq_E_le (r h : Nat → Nat) (l x k : Nat) : cq_E r h l x k ≤ l * k := by
  induction k with
  | zero => exact Nat.zero_le _
  | succ k ih =>
    rw [cq_E_s, Nat.mul_succ l k]
    have : min (r (x * 4 + k)) (l - h (x * 4 + k)) ≤ l := Nat.le_trans (Nat.min_le_right _ _) (Nat.sub_le _ _)
    omega
theorem cq_E_ex {r h : Nat → Nat} {l x k : Nat} (e : 0 < cq_E r h l x k) : ∃ j, j < k ∧ 0 < r (x * 4 + j) ∧ h (x * 4 + j) < l := by
  induction k with
  | zero => exact absurd e (by simp [cq_E])
  | succ k ih =>
    have e' : 0 < cq_E r h l x k + min (r (x * 4 + k)) (l - h (x * 4 + k)) := e
    by_cases z : 0 < cq_E r h l x k
    · obtain ⟨j, a, b⟩ := ih z
      exact ⟨j, by omega, b⟩
    · exact ⟨k, by omega, by omega, by omega⟩
end
section
/-! one pure state behind both sides -/
def cq_up (f : Nat → Nat) (i x : Nat) : Nat → Nat := fun j => if j = i then x else f j
def cq_ub (f : Nat → Bool) (i : Nat) (x : Bool) : Nat → Bool := fun j => if j = i then x else f j
theorem cq_up_s (f : Nat → Nat) (i x : Nat) : cq_up f i x i = x := if_pos rfl
theorem cq_up_n {f : Nat → Nat} {i x j : Nat} (h : j ≠ i) : cq_up f i x j = f j := if_neg h
theorem cq_ub_s (f : Nat → Bool) (i : Nat) (x : Bool) : cq_ub f i x i = x := if_pos rfl
theorem cq_ub_n {f : Nat → Bool} {i : Nat} {x : Bool} {j : Nat} (h : j ≠ i) : cq_ub f i x j = f j := if_neg h
def cq_A (f : Nat → Nat) : Nat → Int32 := fun j => nI (f j)
def cq_P (p : Nat → Nat) : Nat → Int32 := fun q => if q = 0 then (-1) else nI (p q)
def cq_V (lv : Nat → Bool) : Nat → Int32 := fun i => cq_bI (lv i)
def cq_G (lv : Nat → Bool) (id : Nat → Nat) : Nat → Int64 := fun i => if lv i then lN (id i) else 0
theorem cq_A_up (f : Nat → Nat) (i x : Nat) : upd (cq_A f) i (nI x) = cq_A (cq_up f i x) := by
  funext j
  unfold upd cq_A cq_up
  by_cases h : j = i
  · rw [if_pos h, if_pos h]
  · rw [if_neg h, if_neg h]
theorem cq_P_up (p : Nat → Nat) {i : Nat} (x : Nat) (h0 : i ≠ 0) : upd (cq_P p) i (nI x) = cq_P (cq_up p i x) := by
  funext j
  unfold upd cq_P cq_up
  by_cases h : j = i
  · rw [if_pos h, if_pos h, if_neg (by omega)]
  · rw [if_neg h, if_neg h]
theorem cq_V_up (lv : Nat → Bool) (i : Nat) (b : Bool) : upd (cq_V lv) i (cq_bI b) = cq_V (cq_ub lv i b) := by
  funext j
  unfold upd cq_V cq_ub
  by_cases h : j = i
  · rw [if_pos h, if_pos h]
  · rw [if_neg h, if_neg h]
theorem cq_G_up (lv : Nat → Bool) (id : Nat → Nat) (i x : Nat) : vp_updL (cq_G lv id) i (lN x) = cq_G (cq_ub lv i true) (cq_up id i x) := by
  funext j
  unfold vp_updL cq_G cq_ub cq_up
  by_cases h : j = i
  · rw [if_pos h, if_pos h, if_pos h]
    rfl
  · rw [if_neg h, if_neg h, if_neg h]
theorem cq_G_rm (lv : Nat → Bool) (id : Nat → Nat) (i : Nat) : vp_updL (cq_G lv id) i 0 = cq_G (cq_ub lv i false) id := by
  funext j
  unfold vp_updL cq_G cq_ub
  by_cases h : j = i
  · rw [if_pos h, if_pos h]
    rfl
  · rw [if_neg h, if_neg h]
theorem cq_P_0 (p : Nat → Nat) : cq_P p 0 = -1 := if_pos rfl
theorem cq_P_p {p : Nat → Nat} {q : Nat} (h : q ≠ 0) : cq_P p q = nI (p q) := if_neg h
theorem cq_G_t {lv : Nat → Bool} {id : Nat → Nat} {i : Nat} (h : lv i = true) : cq_G lv id i = lN (id i) := if_pos h
theorem cq_G_f {lv : Nat → Bool} {id : Nat → Nat} {i : Nat} (h : lv i = false) : cq_G lv id i = 0 := by
  unfold cq_G
  rw [h]
  rfl
theorem cq_V_t {lv : Nat → Bool} {i : Nat} (h : lv i = true) : cq_V lv i = 1 := by
  unfold cq_V
  rw [h]
  rfl
theorem cq_V_f {lv : Nat → Bool} {i : Nat} (h : lv i = false) : cq_V lv i = 0 := by
  unfold cq_V
  rw [h]
  rfl
/-- what stays while units are shared out -/
def cq_J (c l n : Nat) (p g m : Nat → Nat) : Prop := (1 ≤ c ∧ c ≤ 64 ∧ l ≤ 64 ∧ 1 ≤ n ∧ n ≤ 16) ∧ cq_T p n ∧ (∀ q, g q ≤ 64) ∧ (∀ q, m q ≤ 64) ∧ m 0 = c
/-- what changes then: the next id, requests, the slots' leaves, users, ids, and which slots live -/
abbrev cq_Z : Type := Nat × (Nat → Nat) × (Nat → Nat) × (Nat → Nat) × (Nat → Nat) × (Nat → Bool)
abbrev cq_t (z : cq_Z) : Nat := z.1
abbrev cq_r (z : cq_Z) : Nat → Nat := z.2.1
abbrev cq_cl (z : cq_Z) : Nat → Nat := z.2.2.1
abbrev cq_cu (z : cq_Z) : Nat → Nat := z.2.2.2.1
abbrev cq_id (z : cq_Z) : Nat → Nat := z.2.2.2.2.1
abbrev cq_lv (z : cq_Z) : Nat → Bool := z.2.2.2.2.2
def cq_D (T B n : Nat) (p : Nat → Nat) (z : cq_Z) : Prop := (1 ≤ cq_t z ∧ cq_t z ≤ T) ∧ (∀ j, cq_r z j ≤ B) ∧ (∀ j, 4 * n ≤ j → cq_r z j = 0) ∧ (∀ i, cq_lv z i = true → cq_cl z i < n ∧ cq_cu z i < 4 ∧ 1 ≤ cq_id z i ∧ cq_id z i < cq_t z ∧ cq_cc p n (cq_cl z i) = 0)
theorem cq_D_up {T T' B B' n : Nat} {p : Nat → Nat} {z : cq_Z} (h : cq_D T B n p z) (hT : T ≤ T') (hB : B ≤ B') : cq_D T' B' n p z :=
  ⟨⟨h.1.1, Nat.le_trans h.1.2 hT⟩, fun j => Nat.le_trans (h.2.1 j) hB, h.2.2.1, h.2.2.2⟩
def cq_put (z : cq_Z) (x y s : Nat) : cq_Z := (cq_t z + 1, cq_up (cq_r z) (x * 4 + y) (cq_r z (x * 4 + y) - 1), cq_up (cq_cl z) s x, cq_up (cq_cu z) s y, cq_up (cq_id z) s (cq_t z), cq_ub (cq_lv z) s true)
def cq_del (z : cq_Z) (s : Nat) : cq_Z := (cq_t z, cq_r z, cq_cl z, cq_cu z, cq_id z, cq_ub (cq_lv z) s false)
def cq_sr (z : cq_Z) (j x : Nat) : cq_Z := (cq_t z, cq_up (cq_r z) j x, cq_cl z, cq_cu z, cq_id z, cq_lv z)
def cq_rq (z : cq_Z) (v : Nat) : cq_Z := cq_sr (cq_del z v) (cq_cl z v * 4 + cq_cu z v) (cq_r z (cq_cl z v * 4 + cq_cu z v) + 1)
theorem cq_D_put {T B n : Nat} {p : Nat → Nat} {z : cq_Z} (h : cq_D T B n p z) {x y s : Nat} (hx : x < n) (hy : y < 4) (hc : cq_cc p n x = 0) : cq_D (T + 1) B n p (cq_put z x y s) := by
  obtain ⟨⟨h1, h2⟩, h3, h4, h5⟩ := h
  refine ⟨⟨show 1 ≤ cq_t z + 1 by omega, show cq_t z + 1 ≤ T + 1 by omega⟩, fun j => ?_, fun j hj => ?_, fun i hi => ?_⟩
  · show cq_up (cq_r z) (x * 4 + y) (cq_r z (x * 4 + y) - 1) j ≤ B
    unfold cq_up
    have a := h3 j
    have b := h3 (x * 4 + y)
    split <;> omega
  · show cq_up (cq_r z) (x * 4 + y) (cq_r z (x * 4 + y) - 1) j = 0
    rw [cq_up_n (by omega)]
    exact h4 j hj
  · have hi' : cq_ub (cq_lv z) s true i = true := hi
    show cq_up (cq_cl z) s x i < n ∧ cq_up (cq_cu z) s y i < 4 ∧ 1 ≤ cq_up (cq_id z) s (cq_t z) i ∧ cq_up (cq_id z) s (cq_t z) i < cq_t z + 1 ∧ cq_cc p n (cq_up (cq_cl z) s x i) = 0
    by_cases e : i = s
    · subst e
      rw [cq_up_s, cq_up_s, cq_up_s]
      exact ⟨hx, hy, h1, by omega, hc⟩
    · rw [cq_ub_n e] at hi'
      rw [cq_up_n e, cq_up_n e, cq_up_n e]
      obtain ⟨a, b, c, d, f⟩ := h5 i hi'
      exact ⟨a, b, c, by omega, f⟩
theorem cq_D_del {T B n : Nat} {p : Nat → Nat} {z : cq_Z} (h : cq_D T B n p z) (s : Nat) : cq_D T B n p (cq_del z s) := by
  obtain ⟨h1, h3, h4, h5⟩ := h
  refine ⟨h1, h3, h4, fun i hi => ?_⟩
  have hi' : cq_ub (cq_lv z) s false i = true := hi
  by_cases e : i = s
  · subst e
    rw [cq_ub_s] at hi'
    exact absurd hi' (by decide)
  · rw [cq_ub_n e] at hi'
    exact h5 i hi'
theorem cq_D_sr {T B B' n : Nat} {p : Nat → Nat} {z : cq_Z} (h : cq_D T B n p z) {j x : Nat} (hj : j < 4 * n) (hB : B ≤ B') (hx : x ≤ B') : cq_D T B' n p (cq_sr z j x) := by
  obtain ⟨h1, h3, h4, h5⟩ := h
  refine ⟨h1, fun i => ?_, fun i hi => ?_, h5⟩
  · show cq_up (cq_r z) j x i ≤ B'
    unfold cq_up
    have a := h3 i
    split <;> omega
  · show cq_up (cq_r z) j x i = 0
    rw [cq_up_n (by omega)]
    exact h4 i hi
/-! how the counts move -/
theorem cq_us_grant {p cl : Nat → Nat} {lv : Nat → Bool} {s : Nat} (x : Nat) (hs : s < 64) (hl : lv s = false) (q : Nat) : cq_us p (cq_up cl s x) (cq_ub lv s true) q = cq_us p cl lv q + (if cq_un p x q then 1 else 0) := by
  unfold cq_us
  rw [cq_cnt_set (f := fun i => lv i && cq_un p (cl i) q) (s := s) (fun i hi => by
    show (cq_ub lv s true i && cq_un p (cq_up cl s x i) q) = _
    rw [cq_ub_n hi, cq_up_n hi]) (by
    show (lv s && _) = false
    rw [hl]
    rfl) hs]
  rw [cq_ub_s, cq_up_s, Bool.true_and]
theorem cq_hs_grant {cl cu : Nat → Nat} {lv : Nat → Bool} {s : Nat} (x y : Nat) (hs : s < 64) (hl : lv s = false) (j : Nat) : cq_hs (cq_up cl s x) (cq_up cu s y) (cq_ub lv s true) j = cq_hs cl cu lv j + (if x * 4 + y == j then 1 else 0) := by
  unfold cq_hs
  rw [cq_cnt_set (f := fun i => lv i && (cl i * 4 + cu i == j)) (s := s) (fun i hi => by
    show (cq_ub lv s true i && (cq_up cl s x i * 4 + cq_up cu s y i == j)) = _
    rw [cq_ub_n hi, cq_up_n hi, cq_up_n hi]) (by
    show (lv s && _) = false
    rw [hl]
    rfl) hs]
  rw [cq_ub_s, cq_up_s, cq_up_s, Bool.true_and]
theorem cq_us_rm {p cl : Nat → Nat} {lv : Nat → Bool} {s : Nat} (hs : s < 64) (hl : lv s = true) (q : Nat) : cq_us p cl lv q = cq_us p cl (cq_ub lv s false) q + (if cq_un p (cl s) q then 1 else 0) := by
  unfold cq_us
  rw [cq_cnt_set (f := fun i => cq_ub lv s false i && cq_un p (cl i) q) (f' := fun i => lv i && cq_un p (cl i) q) (s := s) (fun i hi => by
    show _ = (cq_ub lv s false i && cq_un p (cl i) q)
    rw [cq_ub_n hi]) (by
    show (cq_ub lv s false s && _) = false
    rw [cq_ub_s]
    rfl) hs]
  rw [hl, Bool.true_and]
theorem cq_hs_rm {cl cu : Nat → Nat} {lv : Nat → Bool} {s : Nat} (hs : s < 64) (hl : lv s = true) (j : Nat) : cq_hs cl cu lv j = cq_hs cl cu (cq_ub lv s false) j + (if cl s * 4 + cu s == j then 1 else 0) := by
  unfold cq_hs
  rw [cq_cnt_set (f := fun i => cq_ub lv s false i && (cl i * 4 + cu i == j)) (f' := fun i => lv i && (cl i * 4 + cu i == j)) (s := s) (fun i hi => by
    show _ = (cq_ub lv s false i && (cl i * 4 + cu i == j))
    rw [cq_ub_n hi]) (by
    show (cq_ub lv s false s && _) = false
    rw [cq_ub_s]
    rfl) hs]
  rw [hl, Bool.true_and]
theorem cq_us_new {p cl : Nat → Nat} {lv : Nat → Bool} {n x : Nat} (hT : cq_T p n) (h : ∀ i, lv i = true → cl i < n) (q : Nat) : cq_us (cq_up p n x) cl lv q = cq_us p cl lv q := by
  unfold cq_us
  refine cq_cnt_congr fun i _ => ?_
  cases hl : lv i with
  | false => rfl
  | true => rw [cq_un_congr hT (fun j hj => cq_up_n (by omega)) (h i hl)]
theorem cq_cc_new {p : Nat → Nat} {n x q : Nat} (h1 : 1 ≤ n) : cq_cc (cq_up p n x) (n + 1) q = cq_cc p n q + (if x == q then 1 else 0) := by
  unfold cq_cc
  rw [cq_cnt_s, cq_cnt_congr (f := fun j => !(j == 0) && (p j == q)) (fun j hj => by
    show (!(j == 0) && (cq_up p n x j == q)) = _
    rw [cq_up_n (by omega)])]
  have e : (n == 0) = false := by simp; omega
  rw [cq_up_s, e, Bool.not_false, Bool.true_and]
/-- all live containers lie under the root -/
theorem cq_us_rt {p cl : Nat → Nat} {lv : Nat → Bool} {n : Nat} (hT : cq_T p n) (h : ∀ i, lv i = true → cl i < n) (hu : cq_us p cl lv 0 < 64) : ∃ i, i < 64 ∧ lv i = false := by
  obtain ⟨i, hi, e⟩ := cq_cnt_room hu
  refine ⟨i, hi, ?_⟩
  cases hl : lv i with
  | false => rfl
  | true =>
    have e' : (lv i && cq_un p (cl i) 0) = false := e
    rw [hl, cq_un_rt hT (cl i + 1) (cl i) (by omega) (h i hl)] at e'
    exact absurd e' (by decide)
theorem cq_us_16 {p cl : Nat → Nat} {lv : Nat → Bool} {n q : Nat} (hT : cq_T p n) (h : ∀ i, lv i = true → cl i < n) (hq : n ≤ q) : cq_us p cl lv q = 0 := by
  refine cq_cnt_0 fun i _ => ?_
  cases hl : lv i with
  | false => rfl
  | true =>
    have := h i hl
    rw [cq_un_gt hT this (by omega)]
    rfl
end
section
/-! the pure machine -/
def cq_u (p : Nat → Nat) (z : cq_Z) : Nat → Nat := cq_us p (cq_cl z) (cq_lv z)
def cq_h (z : cq_Z) : Nat → Nat := cq_hs (cq_cl z) (cq_cu z) (cq_lv z)
def cq_e (l : Nat) (z : cq_Z) (x : Nat) : Nat := cq_E (cq_r z) (cq_h z) l x 4
def cq_le (l n : Nat) (p m : Nat → Nat) (z : cq_Z) (x : Nat) : Bool := cq_el p m (cq_u p z) (cq_r z) (cq_h z) l n x
def cq_on (l n : Nat) (p m : Nat → Nat) (z : cq_Z) (q : Nat) : Bool := cq_op p m (cq_u p z) (cq_r z) (cq_h z) l n q
/-- the user and the slot that a grant takes -/
def cq_ue (l : Nat) (z : cq_Z) (x k : Nat) : Bool := decide (0 < cq_r z (x * 4 + k)) && decide (cq_h z (x * 4 + k) < l)
def cq_ubt (z : cq_Z) (x k j : Nat) : Bool := decide (cq_h z (x * 4 + k) < cq_h z (x * 4 + j))
def cq_us4 (l : Nat) (z : cq_Z) (x : Nat) (k : Nat) : Option Nat := cq_fo (cq_ue l z x) (cq_ubt z x) k
def cq_fr (z : cq_Z) (i : Nat) : Bool := !(cq_lv z i)
def cq_sl (z : cq_Z) : Option Nat := cq_fnd (cq_fr z) 0 64
def cq_gr (l x : Nat) (z : cq_Z) : cq_Z := match cq_us4 l z x 4 with
  | none => z
  | some y => match cq_sl z with
    | none => z
    | some s => cq_put z x y s
def cq_gb (l x : Nat) (z : cq_Z) : Bool := match cq_us4 l z x 4 with
  | none => false
  | some _ => match cq_sl z with
    | none => false
    | some _ => true
/-- the leaf that a step grants to -/
def cq_oc (l n : Nat) (p m : Nat → Nat) (z : cq_Z) (q j : Nat) : Bool := !(j == 0) && (p j == q) && cq_on l n p m z j
def cq_lc (l n : Nat) (p g m : Nat → Nat) (z : cq_Z) (q i : Nat) : Option Nat := cq_fo (cq_oc l n p m z q) (cq_lt g (cq_u p z)) i
def cq_lf (l n : Nat) (p g m : Nat → Nat) (z : cq_Z) : Nat → Nat → Nat
  | 0, q => q
  | f + 1, q => if cq_cc p n q = 0 then q else match cq_lc l n p g m z q n with
    | none => q
    | some b => cq_lf l n p g m z f b
def cq_nx (l n : Nat) (p g m : Nat → Nat) (z : cq_Z) : cq_Z := cq_gr l (cq_lf l n p g m z 16 0) z
def cq_fz (l n : Nat) (p g m : Nat → Nat) : Nat → cq_Z → cq_Z
  | 0, z => z
  | d + 1, z => if cq_on l n p m z 0 then cq_fz l n p g m d (cq_nx l n p g m z) else z
def cq_fn (l n : Nat) (p g m : Nat → Nat) : Nat → cq_Z → Nat
  | 0, _ => 0
  | d + 1, z => if cq_on l n p m z 0 then cq_fn l n p g m d (cq_nx l n p g m z) + 1 else 0
/-- a round of the taking back -/
def cq_st (l n : Nat) (p g : Nat → Nat) (z : cq_Z) (q : Nat) : Bool := decide (cq_cc p n q = 0) && decide (cq_u p z q < g q) && decide (0 < cq_e l z q)
def cq_sv (l n : Nat) (p g : Nat → Nat) (z : cq_Z) : Option Nat := cq_fnd (cq_st l n p g z) 0 n
def cq_fa (p m : Nat → Nat) (z : cq_Z) : Nat → Nat → Option Nat
  | 0, _ => none
  | f + 1, x => if cq_u p z x = m x then some x else if x = 0 then none else cq_fa p m z f (p x)
def cq_fs (p m : Nat → Nat) (z : cq_Z) (s : Nat) : Option Nat := if s = 0 then none else cq_fa p m z 16 (p s)
def cq_bw (p g : Nat → Nat) (z : cq_Z) (a s i : Nat) : Bool := cq_lv z i && !(cq_cl z i == s) && decide (g (cq_cl z i) < cq_u p z (cq_cl z i)) && cq_un p (cq_cl z i) a
def cq_yb (z : cq_Z) (i j : Nat) : Bool := decide (cq_id z j < cq_id z i)
def cq_vi (p g : Nat → Nat) (z : cq_Z) (a s k : Nat) : Option Nat := cq_fo (cq_bw p g z a s) (cq_yb z) k
def cq_rd (l n : Nat) (p g m : Nat → Nat) (z : cq_Z) : Option cq_Z := match cq_sv l n p g z with
  | none => none
  | some s => match cq_fs p m z s with
    | none => none
    | some a => match cq_vi p g z a s 64 with
      | none => none
      | some v => some (cq_gr l s (cq_rq z v))
def cq_pz (l n : Nat) (p g m : Nat → Nat) : Nat → cq_Z → cq_Z
  | 0, z => z
  | d + 1, z => match cq_rd l n p g m z with
    | none => z
    | some z' => cq_pz l n p g m d z'
def cq_pn (l n : Nat) (p g m : Nat → Nat) : Nat → cq_Z → Nat
  | 0, _ => 0
  | d + 1, z => match cq_rd l n p g m z with
    | none => 0
    | some z' => cq_pn l n p g m d z' + 1
/-! what it keeps -/
theorem cq_us4_lt {l : Nat} {z : cq_Z} {x y : Nat} (h : cq_us4 l z x 4 = some y) : y < 4 ∧ 0 < cq_r z (x * 4 + y) ∧ cq_h z (x * 4 + y) < l := by
  obtain ⟨a, b⟩ := cq_fo_lt h
  unfold cq_ue at b
  simp only [Bool.and_eq_true, decide_eq_true_eq] at b
  exact ⟨a, b.1, b.2⟩
theorem cq_sl_lt {z : cq_Z} {s : Nat} (h : cq_sl z = some s) : s < 64 ∧ cq_lv z s = false := by
  obtain ⟨a, _, c⟩ := cq_fnd_some h
  refine ⟨by omega, ?_⟩
  unfold cq_fr at a
  simpa using a
theorem cq_gr_no {l x : Nat} {z : cq_Z} (h : cq_gb l x z = false) : cq_gr l x z = z := by
  unfold cq_gb at h
  unfold cq_gr
  cases e : cq_us4 l z x 4 with
  | none => rfl
  | some y =>
    rw [e] at h
    cases f : cq_sl z with
    | none => rfl
    | some s =>
      rw [f] at h
      exact absurd h (by simp)
theorem cq_gr_yes {l x : Nat} {z : cq_Z} (h : cq_gb l x z = true) : ∃ y s, cq_us4 l z x 4 = some y ∧ cq_sl z = some s ∧ cq_gr l x z = cq_put z x y s := by
  unfold cq_gb at h
  unfold cq_gr
  cases e : cq_us4 l z x 4 with
  | none =>
    rw [e] at h
    exact absurd h (by simp)
  | some y =>
    rw [e] at h
    cases f : cq_sl z with
    | none =>
      rw [f] at h
      exact absurd h (by simp)
    | some s => exact ⟨y, s, rfl, rfl, rfl⟩
theorem cq_D_gr {T B n : Nat} {p : Nat → Nat} {z : cq_Z} (h : cq_D T B n p z) {l x : Nat} (hx : x < n) (hc : cq_cc p n x = 0) : cq_D (T + 1) B n p (cq_gr l x z) := by
  cases e : cq_gb l x z with
  | false =>
    rw [cq_gr_no e]
    exact cq_D_up h (by omega) (Nat.le_refl _)
  | true =>
    obtain ⟨y, s, hy, hs, eq⟩ := cq_gr_yes e
    rw [eq]
    exact cq_D_put h hx (cq_us4_lt hy).1 hc
theorem cq_D_rq {T B n : Nat} {p : Nat → Nat} {z : cq_Z} (h : cq_D T B n p z) {v : Nat} (hv : cq_lv z v = true) : cq_D T (B + 1) n p (cq_rq z v) := by
  obtain ⟨a, b, _, _, _⟩ := h.2.2.2 v hv
  have hr := h.2.1 (cq_cl z v * 4 + cq_cu z v)
  exact cq_D_sr (cq_D_del h v) (by omega) (by omega) (by omega)
theorem cq_lc_some {l n : Nat} {p g m : Nat → Nat} {z : cq_Z} {q i b : Nat} (h : cq_lc l n p g m z q i = some b) : b < i ∧ b ≠ 0 ∧ p b = q ∧ cq_on l n p m z b = true := by
  obtain ⟨a, e⟩ := cq_fo_lt h
  unfold cq_oc at e
  simp only [Bool.and_eq_true, Bool.not_eq_true', beq_eq_false_iff_ne, beq_iff_eq] at e
  exact ⟨a, e.1.1, e.1.2, e.2⟩
theorem cq_lc_ex {l n : Nat} {p g m : Nat → Nat} {z : cq_Z} (hT : cq_T p n) {q : Nat} (hc : cq_cc p n q ≠ 0) (ho : cq_on l n p m z q = true) : ∃ b, cq_lc l n p g m z q n = some b := by
  cases e : cq_lc l n p g m z q n with
  | some b => exact ⟨b, rfl⟩
  | none =>
    obtain ⟨j, a, b, c, d⟩ := (cq_op_in hT hc).mp ho
    have := cq_fo_none e j b
    unfold cq_oc at this
    have d' : cq_on l n p m z j = true := d
    rw [d', c] at this
    simp [a] at this
theorem cq_lf_ok {l n : Nat} {p g m : Nat → Nat} {z : cq_Z} (hT : cq_T p n) : ∀ f q, q < n → n ≤ q + f → cq_on l n p m z q = true → cq_lf l n p g m z f q < n ∧ cq_le l n p m z (cq_lf l n p g m z f q) = true := by
  intro f
  induction f with
  | zero =>
    intro q h1 h2
    omega
  | succ f ih =>
    intro q h1 h2 ho
    unfold cq_lf
    by_cases hc : cq_cc p n q = 0
    · rw [if_pos hc]
      exact ⟨h1, (cq_op_leaf hT h1 hc).symm.trans ho⟩
    · rw [if_neg hc]
      obtain ⟨b, hb⟩ := cq_lc_ex (g := g) hT hc ho
      obtain ⟨b1, b2, b3, b4⟩ := cq_lc_some hb
      have := hT b (by omega) b1
      rw [hb]
      exact ih b b1 (by omega) b4
theorem cq_nx_D {T B l n : Nat} {p g m : Nat → Nat} {z : cq_Z} (hT : cq_T p n) (h1 : 1 ≤ n) (hn : n ≤ 16) (h : cq_D T B n p z) (ho : cq_on l n p m z 0 = true) : cq_D (T + 1) B n p (cq_nx l n p g m z) := by
  obtain ⟨a, b⟩ := cq_lf_ok (g := g) hT 16 0 (by omega) (by omega) ho
  exact cq_D_gr h a (cq_el_cc b).1
theorem cq_fz_D {B l n : Nat} {p g m : Nat → Nat} (hT : cq_T p n) (h1 : 1 ≤ n) (hn : n ≤ 16) : ∀ d T z, cq_D T B n p z → cq_D (T + d) B n p (cq_fz l n p g m d z) := by
  intro d
  induction d with
  | zero =>
    intro T z h
    exact h
  | succ d ih =>
    intro T z h
    unfold cq_fz
    by_cases ho : cq_on l n p m z 0 = true
    · rw [if_pos ho]
      exact cq_D_up (ih (T + 1) _ (cq_nx_D hT h1 hn h ho)) (by omega) (Nat.le_refl _)
    · rw [if_neg ho]
      exact cq_D_up h (by omega) (Nat.le_refl _)
theorem cq_sv_ok {l n : Nat} {p g : Nat → Nat} {z : cq_Z} {s : Nat} (h : cq_sv l n p g z = some s) : s < n ∧ cq_cc p n s = 0 ∧ cq_u p z s < g s ∧ 0 < cq_e l z s := by
  obtain ⟨a, b, c⟩ := cq_fnd_some h
  unfold cq_st at a
  simp only [Bool.and_eq_true, decide_eq_true_eq] at a
  exact ⟨by omega, a.1.1, a.1.2, a.2⟩
theorem cq_vi_ok {p g : Nat → Nat} {z : cq_Z} {a s k v : Nat} (h : cq_vi p g z a s k = some v) : v < k ∧ cq_lv z v = true ∧ cq_cl z v ≠ s ∧ g (cq_cl z v) < cq_u p z (cq_cl z v) ∧ cq_un p (cq_cl z v) a = true := by
  obtain ⟨b, e⟩ := cq_fo_lt h
  unfold cq_bw at e
  simp only [Bool.and_eq_true, Bool.not_eq_true', beq_eq_false_iff_ne, decide_eq_true_eq] at e
  exact ⟨b, e.1.1.1, e.1.1.2, e.1.2, e.2⟩
theorem cq_rd_some {l n : Nat} {p g m : Nat → Nat} {z z' : cq_Z} (h : cq_rd l n p g m z = some z') : ∃ s a v, cq_sv l n p g z = some s ∧ cq_fs p m z s = some a ∧ cq_vi p g z a s 64 = some v ∧ z' = cq_gr l s (cq_rq z v) := by
  unfold cq_rd at h
  cases e1 : cq_sv l n p g z with
  | none => rw [e1] at h; exact absurd h (by simp)
  | some s =>
    rw [e1] at h
    dsimp only at h
    cases e2 : cq_fs p m z s with
    | none => rw [e2] at h; exact absurd h (by simp)
    | some a =>
      rw [e2] at h
      dsimp only at h
      cases e3 : cq_vi p g z a s 64 with
      | none => rw [e3] at h; exact absurd h (by simp)
      | some v =>
        rw [e3] at h
        cases h
        exact ⟨s, a, v, rfl, e2, e3, rfl⟩
theorem cq_rd_D {T B l n : Nat} {p g m : Nat → Nat} {z z' : cq_Z} (h : cq_D T B n p z) (e : cq_rd l n p g m z = some z') : cq_D (T + 1) (B + 1) n p z' := by
  obtain ⟨s, a, v, h1, h2, h3, rfl⟩ := cq_rd_some e
  obtain ⟨a1, a2, _, _⟩ := cq_sv_ok h1
  exact cq_D_gr (cq_D_rq h (cq_vi_ok h3).2.1) a1 a2
theorem cq_pz_D {l n : Nat} {p g m : Nat → Nat} : ∀ d T B z, cq_D T B n p z → cq_D (T + d) (B + d) n p (cq_pz l n p g m d z) := by
  intro d
  induction d with
  | zero =>
    intro T B z h
    exact h
  | succ d ih =>
    intro T B z h
    unfold cq_pz
    cases e : cq_rd l n p g m z with
    | none => exact cq_D_up h (by omega) (by omega)
    | some z' => exact cq_D_up (ih (T + 1) (B + 1) z' (cq_rd_D h e)) (by omega) (by omega)
/-! a step of the fill grants -/
theorem cq_u_put (p : Nat → Nat) {z : cq_Z} {s : Nat} (x y : Nat) (hs : s < 64) (hl : cq_lv z s = false) (q : Nat) : cq_u p (cq_put z x y s) q = cq_u p z q + (if cq_un p x q then 1 else 0) := cq_us_grant x hs hl q
theorem cq_h_put {z : cq_Z} {s : Nat} (x y : Nat) (hs : s < 64) (hl : cq_lv z s = false) (j : Nat) : cq_h (cq_put z x y s) j = cq_h z j + (if x * 4 + y == j then 1 else 0) := cq_hs_grant x y hs hl j
theorem cq_gb_ok {T B l n : Nat} {p : Nat → Nat} {z : cq_Z} (hT : cq_T p n) (h : cq_D T B n p z) {x : Nat} (he : 0 < cq_e l z x) (hu : cq_u p z 0 < 64) : cq_gb l x z = true := by
  obtain ⟨j, a, b, c⟩ := cq_E_ex he
  obtain ⟨i, hi, hl⟩ := cq_us_rt hT (fun i hi => (h.2.2.2 i hi).1) hu
  unfold cq_gb
  cases e : cq_us4 l z x 4 with
  | none =>
    have := cq_fo_none e j a
    unfold cq_ue at this
    simp [b, c] at this
  | some y =>
    cases f : cq_sl z with
    | none =>
      have := cq_fnd_none f i (by omega) (by omega)
      unfold cq_fr at this
      rw [hl] at this
      exact absurd this (by decide)
    | some s => rfl
theorem cq_le_room {l n : Nat} {p m : Nat → Nat} {z : cq_Z} (hT : cq_T p n) : ∀ d x, x < d → x < n → cq_rm p m (cq_u p z) x = true → ∀ a, cq_un p x a = true → cq_u p z a < m a := by
  intro d
  induction d with
  | zero =>
    intro x h
    omega
  | succ d ih =>
    intro x hd hx hr a ha
    unfold cq_rm at hr
    by_cases e : x = 0
    · subst e
      rw [cq_ex_0] at hr
      rw [cq_un_00] at ha
      have : 0 = a := by simpa using ha
      subst this
      simpa using hr
    · have hp := hT x (by omega) hx
      rw [cq_ex_p hT _ e hx] at hr
      simp only [Bool.not_or, Bool.and_eq_true, Bool.not_eq_true', decide_eq_false_iff_not, Nat.not_le] at hr
      by_cases w : x = a
      · subst w
        exact hr.1
      · rw [cq_un_ne hT e hx w] at ha
        refine ih (p x) (by omega) (by omega) ?_ a ha
        unfold cq_rm
        rw [hr.2]
        rfl
theorem cq_on_0 {l n : Nat} {p m : Nat → Nat} {z : cq_Z} (hT : cq_T p n) (ho : cq_on l n p m z 0 = true) : cq_u p z 0 < m 0 := by
  obtain ⟨x, hx, hh⟩ := cq_any_iff.mp ho
  simp only [Bool.and_eq_true] at hh
  exact cq_le_room (l := l) hT (x + 1) x (by omega) hx (cq_el_cc hh.2).2.2 0 hh.1
theorem cq_nx_ok {T B c l n : Nat} {p g m : Nat → Nat} {z : cq_Z} (hJ : cq_J c l n p g m) (h : cq_D T B n p z) (ho : cq_on l n p m z 0 = true) : cq_gb l (cq_lf l n p g m z 16 0) z = true ∧ cq_u p (cq_nx l n p g m z) 0 = cq_u p z 0 + 1 := by
  obtain ⟨⟨h1, h2, h3, h4, h5⟩, hT, hg, hm, h0⟩ := hJ
  obtain ⟨a, b⟩ := cq_lf_ok (g := g) hT 16 0 (by omega) (by omega) ho
  obtain ⟨b1, b2, b3⟩ := cq_el_cc b
  have hu := cq_on_0 hT ho
  have hb := cq_gb_ok (l := l) hT h b2 (by omega)
  refine ⟨hb, ?_⟩
  obtain ⟨y, s, hy, hs, eq⟩ := cq_gr_yes hb
  obtain ⟨s1, s2⟩ := cq_sl_lt hs
  unfold cq_nx
  rw [eq, cq_u_put p _ _ s1 s2, cq_un_rt hT _ _ (Nat.lt_succ_self _) a]
  rfl
end
section
/-! small helps for the walks -/
theorem cq_if {c d A B : Prop} (e : c ↔ d) (f : d → A) (g : ¬ d → B) : (c → A) ∧ (¬ c → B) := ⟨fun h => f (e.mp h), fun h => g (fun k => h (e.mpr k))⟩
theorem cq_b0 {b : Bool} {A B : Prop} (f : b = false → A) (g : b = true → B) : (cq_bI b = 0 → A) ∧ (¬ cq_bI b = 0 → B) := by
  cases b with
  | false => exact br_t rfl (f rfl)
  | true => exact br_f (by decide) (g rfl)
theorem cq_nb (b : Bool) : narrow .boolean (.int (cq_bI b)) = .int (cq_bI b) := by
  cases b <;> rfl
theorem cq_m1 {i : Nat} (h : i < 2 ^ 31) : ¬ nI i = -1 := by
  intro e
  have e' := congrArg Int32.toInt e
  rw [nI_toInt h] at e'
  have : (-1 : Int32).toInt = -1 := by decide
  omega
theorem cq_oe {o : Option Nat} {A B : Prop} (ho : ∀ i, o = some i → i < 2 ^ 31) (f : o = none → A) (g : ∀ i, o = some i → B) : (cq_oI o = -1 → A) ∧ (¬ cq_oI o = -1 → B) := by
  cases o with
  | none => exact br_t rfl (f rfl)
  | some i => exact br_f (cq_m1 (ho i rfl)) (g i rfl)
theorem cq_ol {o : Option Nat} {A B : Prop} (ho : ∀ i, o = some i → i < 2 ^ 31) (f : o = none → A) (g : ∀ i, o = some i → B) : (cq_oI o < 0 → A) ∧ (¬ cq_oI o < 0 → B) := by
  cases o with
  | none => exact br_t (by decide) (f rfl)
  | some i => exact br_f (nI_pos (ho i rfl)) (g i rfl)
theorem cq_og {o : Option Nat} {A B : Prop} (ho : ∀ i, o = some i → i < 2 ^ 31) (f : o = none → B) (g : ∀ i, o = some i → A) : (0 ≤ cq_oI o → A) ∧ (¬ 0 ≤ cq_oI o → B) := by
  cases o with
  | none => exact br_f (by decide) (f rfl)
  | some i => exact br_t (nI_pos' (ho i rfl)) (g i rfl)
theorem cq_rA (f : Nat → Nat) {x : Nat} (h : x < 2 ^ 31) : cq_A f (nI x).toNatClampNeg = nI (f x) := by
  rw [nI_clamp h]
  rfl
theorem cq_rP0 (p : Nat → Nat) : cq_P p (nI 0).toNatClampNeg = -1 := by
  rw [nI_clamp (by decide)]
  rfl
theorem cq_rPp (p : Nat → Nat) {x : Nat} (h0 : x ≠ 0) (h : x < 2 ^ 31) : cq_P p (nI x).toNatClampNeg = nI (p x) := by
  rw [nI_clamp h]
  exact cq_P_p h0
theorem cq_rV (lv : Nat → Bool) {x : Nat} (h : x < 2 ^ 31) : cq_V lv (nI x).toNatClampNeg = cq_bI (lv x) := by
  rw [nI_clamp h]
  rfl
theorem cq_ix (x k : Nat) : nI x * 4 + nI k = nI (x * 4 + k) := by
  rw [← nI_add, ← pk_mul]
  rfl
theorem cq_s1 {a b : Nat} (ha : a ≤ 64) (hb : b ≤ 64) : (nI a - nI b ≤ 0) ↔ a ≤ b := by
  constructor
  · intro h
    apply Nat.le_of_not_lt
    intro hl
    rw [pk_sub (by omega)] at h
    exact nI_nle (by omega) (by omega) h
  · intro h
    by_cases e : a = b
    · subst e
      rw [pk_sub (Nat.le_refl _), Nat.sub_self]
      decide
    · exact Int32.le_of_lt (pk_sneg (by omega) (by omega))
end
section
/-! rows that serve both claims -/
section
variable {k c l n : Nat} {p g m : Nat → Nat} {z : cq_Z} {op : Nat → Int32} {post : Int32 → Prop} {A B : Prop} {T' B' : Nat}
theorem cq_pe (hT : cq_T p n) (hn : n ≤ 16) {j q : Nat} (h0 : j ≠ 0) (hj : j < n) (hq : q < 2 ^ 31) : cq_P p (nI j).toNatClampNeg = nI q ↔ p j = q := by
  have := hT j (by omega) hj
  rw [cq_rPp p h0 (by omega)]
  exact nI_eq (by omega) hq
theorem cq_g0 {f : Nat → Nat} {x : Nat} (h : x < 2 ^ 31) (hf : f x < 2 ^ 31) : cq_A f (nI x).toNatClampNeg ≤ 0 ↔ f x = 0 := by
  rw [cq_rA f h, show (0 : Int32) = nI 0 from rfl, nI_leI hf (by decide)]
  omega
theorem cq_g1 {f : Nat → Nat} {x : Nat} (h : x < 2 ^ 31) (hf : f x < 2 ^ 31) : cq_A f (nI x).toNatClampNeg = 0 ↔ f x = 0 := by
  rw [cq_rA f h, show (0 : Int32) = nI 0 from rfl, nI_eq hf (by decide)]
def cq_hc (p : Nat → Nat) (n q : Nat) : Bool := !(decide (cq_cc p n q = 0))
theorem cq_hc_f {q : Nat} (h : cq_cc p n q = 0) : cq_hc p n q = false := by simp [cq_hc, h]
theorem cq_hc_t {q : Nat} (h : cq_cc p n q ≠ 0) : cq_hc p n q = true := by simp [cq_hc, h]
theorem cq_rm_f {u : Nat → Nat} (hT : cq_T p n) {x : Nat} (hx : x < n) (h : m x ≤ u x) : cq_rm p m u x = false := by
  unfold cq_rm
  rw [cq_ex_st hT hx (by simpa using h)]
  rfl
theorem cq_rm_0 {u : Nat → Nat} (h : u 0 < m 0) : cq_rm p m u 0 = true := by
  unfold cq_rm
  rw [cq_ex_0]
  simpa using h
theorem cq_rm_p {u : Nat → Nat} (hT : cq_T p n) {x : Nat} (h0 : x ≠ 0) (hx : x < n) (h : u x < m x) : cq_rm p m u x = cq_rm p m u (p x) := by
  unfold cq_rm
  rw [cq_ex_p hT _ h0 hx, show decide (m x ≤ u x) = false by simpa using h, Bool.false_or]
theorem cq_e_le (l : Nat) (z : cq_Z) (x : Nat) : cq_e l z x ≤ l * 4 := cq_E_le _ _ _ _ _
theorem cq_oc_no {q o : Nat} (h0 : o ≠ 0) (h : p o ≠ q) : cq_oc l n p m z q o = false := by
  unfold cq_oc
  simp [h]
theorem cq_oc_op {q o : Nat} (h0 : o ≠ 0) (h : p o = q) : cq_oc l n p m z q o = cq_on l n p m z o := by
  unfold cq_oc
  simp [h0, h]
theorem cq_dec {a : Nat} (h : 0 < a) : nI a - 1 = nI (a - 1) := by
  obtain ⟨k, rfl⟩ : ∃ k, a = k + 1 := ⟨a - 1, by omega⟩
  exact nI_pred k
theorem cq_w_dec {f : Nat → Nat} {x y : Nat} (h : x * 4 + y < 2 ^ 31) (h0 : 0 < f (x * 4 + y)) : upd (cq_A f) (nI x * 4 + nI y).toNatClampNeg (cq_A f (nI x * 4 + nI y).toNatClampNeg - 1) = cq_A (cq_up f (x * 4 + y) (f (x * 4 + y) - 1)) := by
  rw [cq_ix, cq_rA f h, nI_clamp h, cq_dec h0, cq_A_up]
theorem cq_w_inc {f : Nat → Nat} {x y : Nat} (h : x * 4 + y < 2 ^ 31) : upd (cq_A f) (nI x * 4 + nI y).toNatClampNeg (cq_A f (nI x * 4 + nI y).toNatClampNeg + 1) = cq_A (cq_up f (x * 4 + y) (f (x * 4 + y) + 1)) := by
  rw [cq_ix, cq_rA f h, nI_clamp h, nI_1, cq_A_up]
theorem cq_w_set {f : Nat → Nat} {i : Nat} (v : Nat) (h : i < 2 ^ 31) : upd (cq_A f) (nI i).toNatClampNeg (nI v) = cq_A (cq_up f i v) := by
  rw [nI_clamp h, cq_A_up]
theorem cq_nar1 : vp_nar .boolean 1 = 1 := by rfl
theorem cq_nar0 : vp_nar .boolean 0 = 0 := by rfl
theorem cq_us4_s (l : Nat) (z : cq_Z) (x k : Nat) : cq_us4 l z x (k + 1) = (match cq_us4 l z x k with
    | none => if cq_ue l z x k then some k else none
    | some j => if cq_ue l z x k && cq_ubt z x k j then some k else some j) := rfl
theorem cq_us4_k {l : Nat} {x k : Nat} (h : cq_ue l z x k = false) : cq_us4 l z x (k + 1) = cq_us4 l z x k := cq_fo_k h
theorem cq_us4_4 {l : Nat} {x k y : Nat} (h : cq_us4 l z x k = some y) : y < k := (cq_fo_lt h).1
def cq_S (z : cq_Z) : Prop := ∀ i, cq_lv z i = true → i < 64
theorem cq_S_put {z : cq_Z} (h : cq_S z) {x y s : Nat} (hs : s < 64) : cq_S (cq_put z x y s) := by
  intro i hi
  have hi' : cq_ub (cq_lv z) s true i = true := hi
  by_cases e : i = s
  · omega
  · rw [cq_ub_n e] at hi'
    exact h i hi'
theorem cq_S_del {z : cq_Z} (h : cq_S z) (s : Nat) : cq_S (cq_del z s) := by
  intro i hi
  have hi' : cq_ub (cq_lv z) s false i = true := hi
  by_cases e : i = s
  · subst e
    rw [cq_ub_s] at hi'
    exact absurd hi' (by decide)
  · rw [cq_ub_n e] at hi'
    exact h i hi'
theorem cq_S_gr {z : cq_Z} (h : cq_S z) (l x : Nat) : cq_S (cq_gr l x z) := by
  cases e : cq_gb l x z with
  | false =>
    rw [cq_gr_no e]
    exact h
  | true =>
    obtain ⟨y, s, hy, hs, eq⟩ := cq_gr_yes e
    rw [eq]
    exact cq_S_put h (cq_sl_lt hs).1
theorem cq_S_fz {l n : Nat} {p g m : Nat → Nat} : ∀ d z, cq_S z → cq_S (cq_fz l n p g m d z) := by
  intro d
  induction d with
  | zero =>
    intro z h
    exact h
  | succ d ih =>
    intro z h
    unfold cq_fz
    by_cases ho : cq_on l n p m z 0 = true
    · rw [if_pos ho]
      exact ih _ (cq_S_gr h _ _)
    · rw [if_neg ho]
      exact h
theorem cq_clamp (v : Int32) : ∃ a : Nat, 1 ≤ a ∧ a ≤ 64 ∧ ∀ (P : Int32 → Prop), P (nI a) → ((1 ≤ v → ((v ≤ 64 → P v) ∧ (¬ v ≤ 64 → P 64))) ∧ (¬ 1 ≤ v → P 1)) := by
  by_cases h1 : 1 ≤ v
  · by_cases h2 : v ≤ 64
    · have h0 : ¬ v < 0 := fun w => absurd (Int32.lt_of_lt_of_le (by decide : (0 : Int32) < 1) h1) (fun w' => Int32.lt_irrefl (Int32.lt_trans w w'))
      obtain ⟨a, ha, rfl⟩ := nI_of h0
      rw [show (1 : Int32) = nI 1 from rfl, nI_leI (by decide) ha] at h1
      rw [show (64 : Int32) = nI 64 from rfl, nI_leI ha (by decide)] at h2
      exact ⟨a, h1, h2, fun P hP => br_t (nI_le h1 ha) (br_t (nI_le h2 (by decide)) hP)⟩
    · exact ⟨64, by decide, by decide, fun P hP => br_t h1 (br_f h2 hP)⟩
  · exact ⟨1, by decide, by decide, fun P hP => br_f h1 hP⟩
theorem cq_in1 {v : Int32} {b : Nat} (h0 : ¬ v < 0) (h1 : v ≤ nI b) (hb : b < 2 ^ 31) : ∃ a : Nat, a ≤ b ∧ v = nI a := by
  obtain ⟨a, ha, rfl⟩ := nI_of h0
  exact ⟨a, (nI_leI ha hb).mp h1, rfl⟩
theorem cq_ix3 {v : Int32} {n : Nat} (hn : n < 2 ^ 31) : (v < 0 ∨ nI n ≤ v) ∨ ∃ j : Nat, j < n ∧ v = nI j := by
  rcases pk_ix v hn with h | h | h
  · exact Or.inl (Or.inl h)
  · exact Or.inl (Or.inr h)
  · exact Or.inr h
theorem cq_w_add {f : Nat → Nat} {x y : Nat} (d : Nat) (h : x * 4 + y < 2 ^ 31) : upd (cq_A f) (nI x * 4 + nI y).toNatClampNeg (cq_A f (nI x * 4 + nI y).toNatClampNeg + nI d) = cq_A (cq_up f (x * 4 + y) (f (x * 4 + y) + d)) := by
  rw [cq_ix, cq_rA f h, nI_clamp h, nI_add, cq_A_up]
theorem cq_w_zero {f : Nat → Nat} {x y : Nat} (h : x * 4 + y < 2 ^ 31) : upd (cq_A f) (nI x * 4 + nI y).toNatClampNeg 0 = cq_A (cq_up f (x * 4 + y) 0) := by
  rw [cq_ix, nI_clamp h]
  exact cq_A_up f (x * 4 + y) 0
theorem cq_D_new (hT : cq_T p n) (h1 : 1 ≤ n) {T' B' : Nat} (hD : cq_D T' B' n p z) (hS : cq_S z) {j : Nat} (hj : j < n) (hb : cq_cc p n j = 0 → cq_u p z j = 0) : cq_D T' B' (n + 1) (cq_up p n j) z := by
  obtain ⟨a, b, d, e⟩ := hD
  refine ⟨a, b, fun i hi => d i (by omega), fun i hi => ?_⟩
  obtain ⟨e1, e2, e3, e4, e5⟩ := e i hi
  refine ⟨by omega, e2, e3, e4, ?_⟩
  rw [cq_cc_new h1, e5, if_neg]
  simp only [beq_iff_eq]
  intro w
  subst w
  have h0 : 0 < cq_u p z (cq_cl z i) := cq_cnt_pos (hS i hi) (by simp [hi, cq_un_self])
  have := hb e5
  omega
theorem cq_J_new (hJ : cq_J c l n p g m) (hn : n < 16) {j a b : Nat} (hj : j < n) (ha : a ≤ 64) (hb : b ≤ 64) : cq_J c l (n + 1) (cq_up p n j) (cq_up g n a) (cq_up m n b) := by
  obtain ⟨⟨h1, h2, h3, h4, h5⟩, hT, hg, hm, h0⟩ := hJ
  refine ⟨⟨h1, h2, h3, by omega, by omega⟩, fun q q1 q2 => ?_, fun q => ?_, fun q => ?_, ?_⟩
  · by_cases w : q = n
    · subst w
      rw [cq_up_s]
      exact hj
    · rw [cq_up_n w]
      exact hT q q1 (by omega)
  · have := hg q
    unfold cq_up
    split <;> omega
  · have := hm q
    unfold cq_up
    split <;> omega
  · rw [cq_up_n (by omega)]
    exact h0
theorem cq_J_set (hJ : cq_J c l n p g m) {j a b : Nat} (hj : j ≠ 0) (ha : a ≤ 64) (hb : b ≤ 64) : cq_J c l n p (cq_up g j a) (cq_up m j b) := by
  obtain ⟨hh, hT, hg, hm, h0⟩ := hJ
  refine ⟨hh, hT, fun q => ?_, fun q => ?_, ?_⟩
  · have := hg q
    unfold cq_up
    split <;> omega
  · have := hm q
    unfold cq_up
    split <;> omega
  · rw [cq_up_n (fun w => hj w.symm)]
    exact h0
end
end
section
/-! the class's readers -/
abbrev cq_X (c l n : Nat) (p g m : Nat → Nat) (z : cq_Z) (op : Nat → Int32) : St2 := (nI c, nI l, nI n, lN (cq_t z), cq_P p, cq_A (cq_cc p n), cq_A g, cq_A m, cq_A (cq_u p z), cq_A (cq_r z), cq_A (cq_h z), cq_G (cq_lv z) (cq_id z), cq_A (cq_cl z), cq_A (cq_cu z), op)
section
variable {c l n : Nat} {p g m : Nat → Nat} {z : cq_Z} {op : Nat → Int32} {post : Int32 → Prop} {A B : Prop} {T' B' : Nat}
theorem cq_x_isQueue_no {v : Int32} (h : v < 0 ∨ nI n ≤ v) (hp : post 0) : wpX_isQueue post (cq_X c l n p g m z op) v := by
  by_cases h0 : v < 0
  · exact br_t h0 hp
  · exact br_f h0 (br_t (h.resolve_left h0) hp)
theorem cq_x_isQueue (hn : n ≤ 16) {j : Nat} (hj : j < n) (hp : post 1) : wpX_isQueue post (cq_X c l n p g m z op) (nI j) :=
  br_f (nI_pos (by omega)) (pk_le n j (fun h => by omega) (fun _ => hp))
theorem cq_x_isLeaf_no {v : Int32} (h : v < 0 ∨ nI n ≤ v) (hp : post 0) : wpX_isLeaf post (cq_X c l n p g m z op) v := by
  unfold wpX_isLeaf
  exact cq_x_isQueue_no h (br_t rfl hp)
theorem cq_c1 (hn : n ≤ 16) {j : Nat} (hj : j < n) : cq_A (cq_cc p n) (nI j).toNatClampNeg = 0 ↔ cq_cc p n j = 0 := by
  have := cq_cc_le p n j
  exact cq_g1 (by omega) (by omega)
theorem cq_x_isLeaf (hn : n ≤ 16) {j : Nat} (hj : j < n) (hp : post (cq_bI (!(cq_hc p n j)))) : wpX_isLeaf post (cq_X c l n p g m z op) (nI j) := by
  unfold wpX_isLeaf
  refine cq_x_isQueue hn hj (br_f (by decide) ⟨vp_in_nI (by omega) (by omega), cq_if (cq_c1 hn hj) (fun e => ?_) (fun e => ?_)⟩)
  · rw [cq_hc_f e] at hp
    exact hp
  · rw [cq_hc_t e] at hp
    exact hp
theorem cq_x_isUser_no {v : Int32} (h : v < 0 ∨ nI 4 ≤ v) (hp : post 0) : wpX_isUser post () v := by
  by_cases h0 : v < 0
  · exact br_t h0 hp
  · exact br_f h0 (br_t (h.resolve_left h0) hp)
theorem cq_x_isUser {j : Nat} (hj : j < 4) (hp : post 1) : wpX_isUser post () (nI j) :=
  br_f (nI_pos (by omega)) (pk_le 4 j (fun h => by omega) (fun _ => hp))
def cq_pd (z : cq_Z) (q k : Nat) : Bool := decide (0 < cq_r z (q * 4 + k))
def cq_by (n : Nat) (p : Nat → Nat) (z : cq_Z) (q : Nat) : Bool := decide (cq_cc p n q = 0) && (decide (0 < cq_u p z q) || cq_any (cq_pd z q) 4)
theorem cq_x_by (hn : n ≤ 16) (hD : cq_D T' B' n p z) (hB : B' < 2 ^ 30) {q : Nat} (hq : q < n) (hp : post (cq_bI (cq_any (cq_pd z q) 4))) : ∀ d k f, k + d = 4 → d < f → (∀ j, j < k → cq_pd z q j = false) → wX_isBusyLeaf_23 post (nI q) (nI c) (nI l) (nI n) (lN (cq_t z)) (cq_P p) (cq_A (cq_cc p n)) (cq_A g) (cq_A m) (cq_A (cq_u p z)) (cq_A (cq_r z)) (cq_A (cq_h z)) (cq_G (cq_lv z) (cq_id z)) (cq_A (cq_cl z)) (cq_A (cq_cu z)) op f (nI k) := by
  intro d
  induction d with
  | zero =>
    intro k f hk hf hh
    obtain ⟨f, rfl⟩ : ∃ k, f = k + 1 := ⟨f - 1, by omega⟩
    have e : cq_any (cq_pd z q) 4 = false := cq_any_f fun j hj => hh j (by omega)
    rw [e] at hp
    exact pk_le 4 k (fun _ => hp) (fun h => by omega)
  | succ d ih =>
    intro k f hk hf hh
    obtain ⟨f, rfl⟩ : ∃ k, f = k + 1 := ⟨f - 1, by omega⟩
    have hr := hD.2.1 (q * 4 + k)
    refine pk_le 4 k (fun h => by omega) (fun _ => ⟨by rw [cq_ix]; exact vp_in_nI (by omega) (by omega), cq_if (d := cq_r z (q * 4 + k) = 0) (by rw [cq_ix]; exact cq_g0 (by omega) (by omega)) (fun e => nm_r (nI_1 k) (ih (k + 1) f (by omega) (by omega) (fun j hj => ?_))) (fun e => ?_)⟩)
    · by_cases w : j = k
      · subst w
        unfold cq_pd
        simp [e]
      · exact hh j (by omega)
    · have e2 : cq_any (cq_pd z q) 4 = true := cq_any_iff.mpr ⟨k, by omega, by unfold cq_pd; simp; omega⟩
      rw [e2] at hp
      exact hp
theorem cq_x_isBusyLeaf (hn : n ≤ 16) (hD : cq_D T' B' n p z) (hB : B' < 2 ^ 30) {q : Nat} (hq : q < n) (hp : post (cq_bI (cq_by n p z q))) : wpX_isBusyLeaf post (cq_X c l n p g m z op) (nI q) := by
  have hu : cq_u p z q ≤ 64 := cq_us_le _ _ _ _
  unfold wpX_isBusyLeaf
  refine cq_x_isLeaf hn hq ?_
  unfold cq_by at hp
  by_cases e : cq_cc p n q = 0
  · rw [cq_hc_f e]
    rw [show decide (cq_cc p n q = 0) = true by simpa using e, Bool.true_and] at hp
    refine br_f (by decide) ⟨vp_in_nI (by omega) (by omega), cq_if (cq_g0 (f := cq_u p z) (by omega) (by omega)) (fun e2 => ?_) (fun e2 => ?_)⟩
    · rw [show decide (0 < cq_u p z q) = false by simp [e2], Bool.false_or] at hp
      exact Exists.intro 5 (cq_x_by hn hD hB hq hp 4 0 5 (by omega) (by omega) (fun j hj => by omega))
    · rw [show decide (0 < cq_u p z q) = true by simp; omega, Bool.true_or] at hp
      exact hp
  · rw [cq_hc_t e]
    rw [show decide (cq_cc p n q = 0) = false by simpa using e, Bool.false_and] at hp
    exact br_t rfl hp
theorem cq_cs_s (p g : Nat → Nat) (q j : Nat) : cq_cs p g q (j + 1) = cq_cs p g q j + (if !(j == 0) && (p j == q) then g j else 0) := rfl
theorem cq_pe0 {q : Nat} (hq : q < 2 ^ 31) : ¬ cq_P p (nI 0).toNatClampNeg = nI q := by
  rw [cq_rP0]
  exact fun e => cq_m1 hq e.symm
theorem cq_x_cg (hJ : cq_J c l n p g m) {q : Nat} (hq : q < 2 ^ 31) (hp : post (nI (cq_cs p g q n))) : ∀ d j f, j + d = n → d < f → wX_childGuarantees_4 post (nI q) (nI c) (nI l) (nI n) (lN (cq_t z)) (cq_P p) (cq_A (cq_cc p n)) (cq_A g) (cq_A m) (cq_A (cq_u p z)) (cq_A (cq_r z)) (cq_A (cq_h z)) (cq_G (cq_lv z) (cq_id z)) (cq_A (cq_cl z)) (cq_A (cq_cu z)) op f (nI (cq_cs p g q j)) (nI j) := by
  obtain ⟨⟨h1, h2, h3, h4, hn⟩, hT, hg, hm, h0⟩ := hJ
  intro d
  induction d with
  | zero =>
    intro j f hj hf
    obtain ⟨f, rfl⟩ : ∃ k, f = k + 1 := ⟨f - 1, by omega⟩
    have e : j = n := by omega
    subst e
    exact pk_le j j (fun _ => hp) (fun h => by omega)
  | succ d ih =>
    intro j f hj hf
    obtain ⟨f, rfl⟩ : ∃ k, f = k + 1 := ⟨f - 1, by omega⟩
    have ih' := ih (j + 1) f (by omega) (by omega)
    rw [cq_cs_s] at ih'
    refine pk_le n j (fun h => by omega) (fun _ => ⟨vp_in_nI (by omega) (by omega), ?_⟩)
    by_cases e0 : j = 0
    · subst e0
      exact br_f (cq_pe0 hq) (nm_r (nI_1 0) ih')
    · refine cq_if (cq_pe hT hn e0 (by omega) hq) (fun e => ⟨vp_in_nI (by omega) (by omega), nm_r (by rw [cq_rA g (by omega), nI_add]) (nm_r (nI_1 j) ?_)⟩) (fun e => nm_r (nI_1 j) ?_)
      · rw [if_pos (by simp [e, e0])] at ih'
        exact ih'
      · rw [if_neg (by simp [e])] at ih'
        exact ih'
theorem cq_x_childGuarantees (hJ : cq_J c l n p g m) {q : Nat} (hq : q < 2 ^ 31) (hp : post (nI (cq_cs p g q n))) : wpX_childGuarantees post (cq_X c l n p g m z op) (nI q) :=
  Exists.intro (n + 1) (cq_x_cg hJ hq hp n 0 (n + 1) (by omega) (by omega))
theorem cq_x_sh {a : Int64} {F : Nat → Bool} (hF : ∀ i, i < 64 → (cq_G (cq_lv z) (cq_id z) i = a ↔ F i = true)) : ∀ d i f, i + d = 64 → d < f → post (cq_oI (cq_fnd F i d)) → wX_slotHolding_2 post a (nI c) (nI l) (nI n) (lN (cq_t z)) (cq_P p) (cq_A (cq_cc p n)) (cq_A g) (cq_A m) (cq_A (cq_u p z)) (cq_A (cq_r z)) (cq_A (cq_h z)) (cq_G (cq_lv z) (cq_id z)) (cq_A (cq_cl z)) (cq_A (cq_cu z)) op f (nI i) := by
  intro d
  induction d with
  | zero =>
    intro i f hi hf hp
    obtain ⟨f, rfl⟩ : ∃ k, f = k + 1 := ⟨f - 1, by omega⟩
    exact pk_le 64 i (fun _ => hp) (fun h => by omega)
  | succ d ih =>
    intro i f hi hf hp
    obtain ⟨f, rfl⟩ : ∃ k, f = k + 1 := ⟨f - 1, by omega⟩
    rw [cq_fnd_s] at hp
    refine pk_le 64 i (fun h => by omega) (fun _ => ⟨vp_in_nI (by omega) (by omega), cq_if (d := F i = true) (by rw [nI_clamp (by omega)]; exact hF i (by omega)) (fun e => ?_) (fun e => nm_r (nI_1 i) (ih (i + 1) f (by omega) (by omega) ?_))⟩)
    · rw [if_pos e] at hp
      exact hp
    · rw [if_neg e] at hp
      exact hp
theorem cq_x_slotHolding {a : Int64} {F : Nat → Bool} (hF : ∀ i, i < 64 → (cq_G (cq_lv z) (cq_id z) i = a ↔ F i = true)) (hp : post (cq_oI (cq_fnd F 0 64))) : wpX_slotHolding post (cq_X c l n p g m z op) a :=
  Exists.intro 65 (cq_x_sh hF 64 0 65 (by omega) (by omega) hp)
def cq_at (z : cq_Z) (d i : Nat) : Bool := cq_lv z i && (cq_id z i == d)
theorem cq_F0 (hD : cq_D T' B' n p z) (hT' : T' < 2 ^ 31) (i : Nat) : cq_G (cq_lv z) (cq_id z) i = 0 ↔ cq_fr z i = true := by
  unfold cq_fr
  cases e : cq_lv z i with
  | false =>
    rw [cq_G_f e]
    simp
  | true =>
    obtain ⟨_, _, a, b, _⟩ := hD.2.2.2 i e
    have := hD.1.2
    rw [cq_G_t e, show (0 : Int64) = lN 0 from rfl, lN_eq (by omega) (by decide)]
    simp
    omega
theorem cq_Fd (hD : cq_D T' B' n p z) (hT' : T' < 2 ^ 31) {d : Nat} (h0 : 0 < d) (hd : d < 2 ^ 31) (i : Nat) : cq_G (cq_lv z) (cq_id z) i = lN d ↔ cq_at z d i = true := by
  unfold cq_at
  cases e : cq_lv z i with
  | false =>
    rw [cq_G_f e, show (0 : Int64) = lN 0 from rfl, lN_eq (by decide) hd]
    simp
    omega
  | true =>
    obtain ⟨_, _, a, b, _⟩ := hD.2.2.2 i e
    have := hD.1.2
    rw [cq_G_t e, lN_eq (by omega) hd]
    simp
theorem cq_x_slotOf (hD : cq_D T' B' n p z) (hT' : T' < 2 ^ 31) {d : Nat} (h0 : 0 < d) (hd : d < 2 ^ 31) (hp : post (cq_oI (cq_fnd (cq_at z d) 0 64))) : wpX_slotOf post (cq_X c l n p g m z op) (nI d) := by
  refine br_t (by rw [show (0 : Int32) = nI 0 from rfl]; exact nI_lt h0 hd) ?_
  rw [nI_l hd]
  exact cq_x_slotHolding (fun i _ => cq_Fd hD hT' h0 hd i) hp
theorem cq_x_ed (hn : n ≤ 16) (h64 : l ≤ 64) (hD : cq_D T' B' n p z) (hB : B' < 2 ^ 30) {x : Nat} (hx : x < n) {post : Int64 → Prop} (hp : post (lN (cq_e l z x))) : ∀ d k f, k + d = 4 → d < f → wX_eligibleDemand_5 post (nI x) (nI c) (nI l) (nI n) (lN (cq_t z)) (cq_P p) (cq_A (cq_cc p n)) (cq_A g) (cq_A m) (cq_A (cq_u p z)) (cq_A (cq_r z)) (cq_A (cq_h z)) (cq_G (cq_lv z) (cq_id z)) (cq_A (cq_cl z)) (cq_A (cq_cu z)) op f (lN (cq_E (cq_r z) (cq_h z) l x k)) (nI k) := by
  intro d
  induction d with
  | zero =>
    intro k f hk hf
    obtain ⟨f, rfl⟩ : ∃ k, f = k + 1 := ⟨f - 1, by omega⟩
    have e : k = 4 := by omega
    subst e
    exact pk_le 4 4 (fun _ => hp) (fun h => by omega)
  | succ d ih =>
    intro k f hk hf
    obtain ⟨f, rfl⟩ : ∃ k, f = k + 1 := ⟨f - 1, by omega⟩
    have ih' := ih (k + 1) f (by omega) (by omega)
    rw [cq_E_s] at ih'
    have hh : cq_h z (x * 4 + k) ≤ 64 := cq_hs_le _ _ _ _
    have hr := hD.2.1 (x * 4 + k)
    have ix : vp_in (nI x * 4 + nI k) 64 := by rw [cq_ix]; exact vp_in_nI (by omega) (by omega)
    refine pk_le 4 k (fun h => by omega) (fun _ => ⟨ix, nm_r (by rw [cq_ix, cq_rA _ (by omega)]) ⟨ix, ?_⟩⟩)
    by_cases hl : l ≤ cq_h z (x * 4 + k)
    · refine nm_r (e' := nI l - nI (cq_h z (x * 4 + k))) (by rw [cq_ix, cq_rA _ (by omega)]) (br_t ((cq_s1 h64 hh).mpr hl) (nm_r (nI_1 k) ?_))
      rw [show min (cq_r z (x * 4 + k)) (l - cq_h z (x * 4 + k)) = 0 by omega] at ih'
      exact ih'
    · refine nm_r (e' := nI (l - cq_h z (x * 4 + k))) (by rw [cq_ix, cq_rA _ (by omega), pk_sub (by omega)]) (br_f (nI_nle (by omega) (by omega)) (pk_le (l - cq_h z (x * 4 + k)) (cq_r z (x * 4 + k)) (fun hle => nm_r (by rw [nI_l (by omega), lN_add]) (nm_r (nI_1 k) ?_)) (fun hle => nm_r (by rw [nI_l (by omega), lN_add]) (nm_r (nI_1 k) ?_))))
      · rw [show min (cq_r z (x * 4 + k)) (l - cq_h z (x * 4 + k)) = l - cq_h z (x * 4 + k) by omega] at ih'
        exact ih'
      · rw [show min (cq_r z (x * 4 + k)) (l - cq_h z (x * 4 + k)) = cq_r z (x * 4 + k) by omega] at ih'
        exact ih'
theorem cq_x_eligibleDemand (hn : n ≤ 16) (h64 : l ≤ 64) (hD : cq_D T' B' n p z) (hB : B' < 2 ^ 30) {x : Nat} (hx : x < n) {post : Int64 → Prop} (hp : post (lN (cq_e l z x))) : wpX_eligibleDemand post (cq_X c l n p g m z op) (nI x) :=
  Exists.intro 5 (cq_x_ed hn h64 hD hB hx hp 4 0 5 (by omega) (by omega))
theorem cq_x_rm (hJ : cq_J c l n p g m) : ∀ d x i f, x < d → x < n → x + i ≤ 15 → d < f → post (cq_bI (cq_rm p m (cq_u p z) x)) → wX_pathHasRoom_4 post (nI c) (nI l) (nI n) (lN (cq_t z)) (cq_P p) (cq_A (cq_cc p n)) (cq_A g) (cq_A m) (cq_A (cq_u p z)) (cq_A (cq_r z)) (cq_A (cq_h z)) (cq_G (cq_lv z) (cq_id z)) (cq_A (cq_cl z)) (cq_A (cq_cu z)) op f (nI x) (nI i) := by
  obtain ⟨⟨h1, h2, h3, h4, hn⟩, hT, hg, hm, h0⟩ := hJ
  intro d
  induction d with
  | zero =>
    intro x i f h
    omega
  | succ d ih =>
    intro x i f hd hx hi hf hp
    obtain ⟨f, rfl⟩ : ∃ k, f = k + 1 := ⟨f - 1, by omega⟩
    have hu : cq_u p z x ≤ 64 := cq_us_le _ _ _ _
    have hmx := hm x
    have ix : vp_in (nI x) 16 := vp_in_nI (by omega) (by omega)
    refine pk_le 16 i (fun h => by omega) (fun _ => br_f (cq_m1 (by omega)) ⟨ix, ix, cq_if (d := cq_u p z x < m x) (by rw [cq_rA m (by omega), cq_rA (cq_u p z) (by omega)]; exact nI_ltI (by omega) (by omega)) (fun e => ⟨ix, ?_⟩) (fun e => ?_)⟩)
    · by_cases h0 : x = 0
      · subst h0
        refine nm_r (cq_rP0 p) (nm_r (nI_1 i) ?_)
        obtain ⟨f, rfl⟩ : ∃ k, f = k + 1 := ⟨f - 1, by omega⟩
        rw [cq_rm_0 e] at hp
        exact pk_le 16 (i + 1) (fun _ => hp) (fun _ => br_t rfl hp)
      · have hpx := hT x (by omega) hx
        rw [cq_rm_p hT h0 hx e] at hp
        exact nm_r (cq_rPp p h0 (by omega)) (nm_r (nI_1 i) (ih (p x) (i + 1) f (by omega) (by omega) (by omega) (by omega) hp))
    · rw [cq_rm_f hT hx (by omega)] at hp
      exact hp
theorem cq_x_pathHasRoom (hJ : cq_J c l n p g m) {x : Nat} (hx : x < n) (hp : post (cq_bI (cq_rm p m (cq_u p z) x))) : wpX_pathHasRoom post (cq_X c l n p g m z op) (nI x) :=
  Exists.intro (x + 2) (cq_x_rm hJ (x + 1) x 0 (x + 2) (by omega) hx (by have := hJ.1; omega) (by omega) hp)
theorem cq_x_isLighter (hJ : cq_J c l n p g m) {a b : Nat} (ha : a < n) (hb : b < n) (hp : post (cq_bI (cq_lt g (cq_u p z) a b))) : wpX_isLighter post (cq_X c l n p g m z op) (nI a) (nI b) := by
  obtain ⟨⟨h1, h2, h3, h4, hn⟩, hT, hg, hm, h0⟩ := hJ
  have ga := hg a
  have gb := hg b
  have ua : cq_u p z a ≤ 64 := cq_us_le _ _ _ _
  have ub : cq_u p z b ≤ 64 := cq_us_le _ _ _ _
  have ia : vp_in (nI a) 16 := vp_in_nI (by omega) (by omega)
  have ib : vp_in (nI b) 16 := vp_in_nI (by omega) (by omega)
  have ga0 : cq_A g (nI a).toNatClampNeg ≤ 0 ↔ g a = 0 := cq_g0 (by omega) (by omega)
  have gb0 : cq_A g (nI b).toNatClampNeg ≤ 0 ↔ g b = 0 := cq_g0 (by omega) (by omega)
  have ga1 : cq_A g (nI a).toNatClampNeg = 0 ↔ g a = 0 := cq_g1 (by omega) (by omega)
  have gb1 : cq_A g (nI b).toNatClampNeg = 0 ↔ g b = 0 := cq_g1 (by omega) (by omega)
  unfold cq_lt at hp
  by_cases xa : g a = 0
  · rw [if_neg (by omega)] at hp
    refine ⟨ia, br_t (ga0.mpr xa) ⟨ia, br_t (ga1.mpr xa) ⟨ib, ?_⟩⟩⟩
    by_cases xb : g b = 0
    · rw [if_neg (by omega)] at hp
      refine br_t (gb1.mpr xb) ⟨ia, ib, cq_if (d := cq_u p z b ≤ cq_u p z a) (by rw [cq_rA (cq_u p z) (by omega), cq_rA (cq_u p z) (by omega)]; exact nI_leI (by omega) (by omega)) (fun h => ?_) (fun h => ?_)⟩
      · rw [show decide (cq_u p z a < cq_u p z b) = false by simpa using h] at hp
        exact hp
      · rw [show decide (cq_u p z a < cq_u p z b) = true by simpa using h] at hp
        exact hp
    · rw [if_pos (by omega)] at hp
      exact br_f (fun w => xb (gb1.mp w)) ⟨ia, br_t (ga0.mpr xa) hp⟩
  · rw [if_pos (by omega)] at hp
    by_cases xb : g b = 0
    · rw [if_neg (by omega)] at hp
      exact ⟨ia, br_f (fun w => xa (ga0.mp w)) ⟨ib, br_t (gb0.mpr xb) ⟨ia, br_f (fun w => xa (ga1.mp w)) ⟨ia, br_f (fun w => xa (ga0.mp w)) hp⟩⟩⟩⟩
    · rw [if_pos (by omega)] at hp
      have m1 : cq_u p z b * g a ≤ 64 * 64 := Nat.mul_le_mul ub ga
      have m2 : cq_u p z a * g b ≤ 64 * 64 := Nat.mul_le_mul ua gb
      refine ⟨ia, br_f (fun w => xa (ga0.mp w)) ⟨ib, br_f (fun w => xb (gb0.mp w)) ⟨ia, ib, ib, ia, cq_if (d := cq_u p z b * g a ≤ cq_u p z a * g b) (by rw [cq_rA g (by omega), cq_rA g (by omega), cq_rA (cq_u p z) (by omega), cq_rA (cq_u p z) (by omega), pk_mul, pk_mul]; exact nI_leI (by omega) (by omega)) (fun h => ?_) (fun h => ?_)⟩⟩⟩
      · rw [show decide (cq_u p z a * g b < cq_u p z b * g a) = false by simpa using h] at hp
        exact hp
      · rw [show decide (cq_u p z a * g b < cq_u p z b * g a) = true by simpa using h] at hp
        exact hp
end
end
section
/-! the class: paths, open marks, grant, fill -/
def cq_Pk (l n : Nat) (p m : Nat → Nat) (z : cq_Z) (k j : Nat) : Prop := ∃ i, k ≤ i ∧ i < n ∧ i ≠ 0 ∧ p i = j ∧ cq_on l n p m z i = true
def cq_Iv (l n : Nat) (p m : Nat → Nat) (z : cq_Z) (k : Nat) (op : Nat → Int32) : Prop := (∀ j, j < k → ∃ b : Bool, op j = cq_bI b ∧ (b = true ↔ cq_Pk l n p m z k j)) ∧ (∀ j, k ≤ j → j < n → op j = cq_bI (cq_on l n p m z j))
theorem cq_m1s (k : Nat) : nI k + (-1) = nI k - 1 := by
  cases k with
  | zero => rfl
  | succ k => rw [pk_m1, nI_pred]
section
variable {c l n : Nat} {p g m : Nat → Nat} {z : cq_Z} {op : Nat → Int32} {post : St2 → Prop} {A B : Prop} {T' B' : Nat}
theorem cq_x_path {fu fl fq : Int32} {ft : Int64} {cc gu mx rq he : Nat → Int32} {si : Nat → Int64} {sl su oq : Nat → Int32} (hT : cq_T p n) (hn : n ≤ 16) (ch : Int32) : ∀ d x i f (us : Nat → Int32), x < d → x < n → x + i ≤ 15 → d < f → post (fu, fl, fq, ft, cq_P p, cc, gu, mx, (fun q => if cq_un p x q then us q + ch else us q), rq, he, si, sl, su, oq) → wX_addToPath_5 post ch fu fl fq ft f (nI x) (nI i) (cq_P p) cc gu mx us rq he si sl su oq := by
  intro d
  induction d with
  | zero =>
    intro x i f us h
    omega
  | succ d ih =>
    intro x i f us hd hx hi hf hp
    obtain ⟨f, rfl⟩ : ∃ k, f = k + 1 := ⟨f - 1, by omega⟩
    have ix : vp_in (nI x) 16 := vp_in_nI (by omega) (by omega)
    refine pk_le 16 i (fun h => by omega) (fun _ => br_f (cq_m1 (by omega)) ⟨ix, ix, nm_r (e' := upd us x (us x + ch)) (by rw [nI_clamp (by omega)]) ⟨ix, ?_⟩⟩)
    by_cases h0 : x = 0
    · subst h0
      refine nm_r (cq_rP0 p) (nm_r (nI_1 i) ?_)
      obtain ⟨f, rfl⟩ : ∃ k, f = k + 1 := ⟨f - 1, by omega⟩
      have e : upd us 0 (us 0 + ch) = fun q => if cq_un p 0 q then us q + ch else us q := by
        funext q
        rw [cq_un_00]
        unfold upd
        by_cases w : q = 0
        · subst w
          rw [if_pos rfl, if_pos (by rfl)]
        · rw [if_neg w, if_neg (by simp; omega)]
      rw [← e] at hp
      exact pk_le 16 (i + 1) (fun _ => hp) (fun _ => br_t rfl hp)
    · have hpx := hT x (by omega) hx
      refine nm_r (cq_rPp p h0 (by omega)) (nm_r (nI_1 i) (ih (p x) (i + 1) f _ (by omega) (by omega) (by omega) (by omega) ?_))
      have e : (fun q => if cq_un p (p x) q then upd us x (us x + ch) q + ch else upd us x (us x + ch) q) = fun q => if cq_un p x q then us q + ch else us q := by
        funext q
        unfold upd
        by_cases w : q = x
        · subst w
          rw [cq_un_self, cq_un_gt hT (by omega) hpx, if_pos rfl, if_neg (by decide), if_pos rfl]
        · rw [cq_un_ne hT h0 hx (fun e => w e.symm), if_neg w]
      rw [e]
      exact hp
theorem cq_x_addToPath {fu fl fq : Int32} {ft : Int64} {cc gu mx us rq he : Nat → Int32} {si : Nat → Int64} {sl su oq : Nat → Int32} (hT : cq_T p n) (hn : n ≤ 16) {ch : Int32} {x : Nat} (hx : x < n) (hp : post (fu, fl, fq, ft, cq_P p, cc, gu, mx, (fun q => if cq_un p x q then us q + ch else us q), rq, he, si, sl, su, oq)) : wpX_addToPath post (fu, fl, fq, ft, cq_P p, cc, gu, mx, us, rq, he, si, sl, su, oq) (nI x) ch :=
  Exists.intro (x + 2) (cq_x_path hT hn ch (x + 1) x 0 (x + 2) us (by omega) hx (by omega) (by omega) hp)
theorem cq_u_del {z : cq_Z} {v : Nat} (p : Nat → Nat) (hv : v < 64) (hl : cq_lv z v = true) (q : Nat) : cq_u p z q = cq_u p (cq_del z v) q + (if cq_un p (cq_cl z v) q then 1 else 0) := cq_us_rm hv hl q
theorem cq_h_del {z : cq_Z} {v : Nat} (hv : v < 64) (hl : cq_lv z v = true) (j : Nat) : cq_h z j = cq_h (cq_del z v) j + (if cq_cl z v * 4 + cq_cu z v == j then 1 else 0) := cq_hs_rm hv hl j
theorem cq_x_remove (hT : cq_T p n) (hn : n ≤ 16) (hD : cq_D T' B' n p z) {s : Nat} (hs : s < 64) (hl : cq_lv z s = true) (hp : post (cq_X c l n p g m (cq_del z s) op)) : wpX_remove post (cq_X c l n p g m z op) (nI s) := by
  obtain ⟨a1, a2, a3, a4, a5⟩ := hD.2.2.2 s hl
  have is : vp_in (nI s) 64 := vp_in_nI (by omega) (by omega)
  have ix : vp_in (nI (cq_cl z s) * 4 + nI (cq_cu z s)) 64 := by rw [cq_ix]; exact vp_in_nI (by omega) (by omega)
  have hcu : cq_A (cq_cu z) (nI s).toNatClampNeg = nI (cq_cu z s) := cq_rA _ (by omega)
  have hh := cq_h_del hs hl
  have hu := cq_u_del p hs hl
  have eh : cq_up (cq_h z) (cq_cl z s * 4 + cq_cu z s) (cq_h z (cq_cl z s * 4 + cq_cu z s) - 1) = cq_h (cq_del z s) := by
    funext j
    have := hh j
    by_cases w : j = cq_cl z s * 4 + cq_cu z s
    · subst w
      rw [if_pos (by simp)] at this
      rw [cq_up_s, this]
      rfl
    · rw [if_neg (by simp; omega)] at this
      rw [cq_up_n w, this]
      rfl
  have eu : (fun q => if cq_un p (cq_cl z s) q then cq_A (cq_u p z) q + (-1) else cq_A (cq_u p z) q) = cq_A (cq_u p (cq_del z s)) := by
    funext q
    have := hu q
    unfold cq_A
    by_cases w : cq_un p (cq_cl z s) q = true
    · rw [if_pos w] at this ⊢
      rw [this, pk_m1]
    · rw [if_neg w] at this ⊢
      rw [this]
      rfl
  have hpos : 0 < cq_h z (cq_cl z s * 4 + cq_cu z s) := by
    have := hh (cq_cl z s * 4 + cq_cu z s)
    rw [if_pos (by simp)] at this
    omega
  refine ⟨is, nm_r (cq_rA _ (by omega)) ?_⟩
  rw [hcu]
  refine ⟨is, ix, ix, nm_r (cq_w_dec (by omega) hpos) ⟨is, nm_r (e' := cq_G (cq_lv (cq_del z s)) (cq_id z)) (by rw [nI_clamp (by omega)]; exact cq_G_rm _ _ _) (cq_x_addToPath hT hn a1 ?_)⟩⟩
  rw [eh, eu]
  exact hp
theorem cq_x_m72 (hT : cq_T p n) (hn : n ≤ 16) {J : Int32 → (Nat → Int32) → (Nat → Int32) → (Nat → Int32) → (Nat → Int32) → (Nat → Int32) → (Nat → Int32) → (Nat → Int32) → (Nat → Int64) → (Nat → Int32) → (Nat → Int32) → (Nat → Int32) → Prop} {k : Nat} (hk : k < n) (h1 : op k = cq_bI (cq_on l n p m z k)) (h2 : ∀ j, j < k → ∃ b : Bool, op j = cq_bI b ∧ (b = true ↔ cq_Pk l n p m z (k + 1) j)) (h3 : ∀ j, k + 1 ≤ j → j < n → op j = cq_bI (cq_on l n p m z j)) (hJ : ∀ op', cq_Iv l n p m z k op' → J (nI k - 1) (cq_P p) (cq_A (cq_cc p n)) (cq_A g) (cq_A m) (cq_A (cq_u p z)) (cq_A (cq_r z)) (cq_A (cq_h z)) (cq_G (cq_lv z) (cq_id z)) (cq_A (cq_cl z)) (cq_A (cq_cu z)) op') : wX_markOpenQueues_72 post J (nI k) (nI c) (nI l) (nI n) (lN (cq_t z)) (cq_P p) (cq_A (cq_cc p n)) (cq_A g) (cq_A m) (cq_A (cq_u p z)) (cq_A (cq_r z)) (cq_A (cq_h z)) (cq_G (cq_lv z) (cq_id z)) (cq_A (cq_cl z)) (cq_A (cq_cu z)) op := by
  have ik : vp_in (nI k) 16 := vp_in_nI (by omega) (by omega)
  have ek : op (nI k).toNatClampNeg = cq_bI (cq_on l n p m z k) := by rw [nI_clamp (by omega)]; exact h1
  have pk' : ∀ j, cq_Pk l n p m z (k + 1) j → cq_Pk l n p m z k j := fun j ⟨i, a, b⟩ => ⟨i, by omega, b⟩
  have kp : ∀ j, cq_Pk l n p m z k j → cq_Pk l n p m z (k + 1) j ∨ (k ≠ 0 ∧ p k = j ∧ cq_on l n p m z k = true) := by
    rintro j ⟨i, a, b, d, e, f⟩
    by_cases w : i = k
    · subst w
      exact Or.inr ⟨d, e, f⟩
    · exact Or.inl ⟨i, by omega, b, d, e, f⟩
  have hge : ∀ j, k ≤ j → j < n → op j = cq_bI (cq_on l n p m z j) := by
    intro j a b
    by_cases w : j = k
    · subst w
      exact h1
    · exact h3 j (by omega) b
  refine ⟨ik, ?_⟩
  rw [ek]
  refine cq_b0 (fun e => nm_r (cq_m1s k) (hJ op ⟨fun j hj => ?_, hge⟩)) (fun e => ?_)
  · obtain ⟨b, b1, b2⟩ := h2 j hj
    refine ⟨b, b1, b2.trans ⟨pk' j, fun w => ?_⟩⟩
    rcases kp j w with w | ⟨_, _, w⟩
    · exact w
    · rw [e] at w
      exact absurd w (by decide)
  · by_cases k0 : k = 0
    · subst k0
      exact br_t rfl (nm_r (cq_m1s 0) (hJ op ⟨fun j hj => by omega, hge⟩))
    · have hpk := hT k (by omega) hk
      refine br_f (nI_ne0 (by omega) (by omega)) ⟨ik, ?_⟩
      rw [cq_rPp p k0 (by omega)]
      refine ⟨vp_in_nI (by omega) (by omega), nm_r (e' := upd op (p k) 1) (by rw [nI_clamp (by omega)]) (nm_r (cq_m1s k) (hJ _ ⟨fun j hj => ?_, fun j a b => ?_⟩))⟩
      · by_cases w : j = p k
        · subst w
          exact ⟨true, pk_us, ⟨fun _ => ⟨k, Nat.le_refl _, hk, k0, rfl, e⟩, fun _ => rfl⟩⟩
        · obtain ⟨b, b1, b2⟩ := h2 j hj
          refine ⟨b, by rw [pk_un w]; exact b1, b2.trans ⟨pk' j, fun w' => ?_⟩⟩
          rcases kp j w' with w' | ⟨_, w', _⟩
          · exact w'
          · exact absurd w'.symm w
      · rw [pk_un (by omega)]
        exact hge j a b
theorem cq_x_m30 (hJ : cq_J c l n p g m) (hD : cq_D T' B' n p z) (hB : B' < 2 ^ 30) (hp : ∀ op', (∀ j, j < n → op' j = cq_bI (cq_on l n p m z j)) → post (cq_X c l n p g m z op')) : ∀ k f op, k ≤ n → k < f → cq_Iv l n p m z k op → wX_markOpenQueues_30 post (nI c) (nI l) (nI n) (lN (cq_t z)) f (nI k - 1) (cq_P p) (cq_A (cq_cc p n)) (cq_A g) (cq_A m) (cq_A (cq_u p z)) (cq_A (cq_r z)) (cq_A (cq_h z)) (cq_G (cq_lv z) (cq_id z)) (cq_A (cq_cl z)) (cq_A (cq_cu z)) op := by
  have hJ' := hJ
  obtain ⟨⟨h1, h2, h3, h4, hn⟩, hT, hg, hm, h0⟩ := hJ
  intro k
  induction k with
  | zero =>
    intro f op hk hf hI
    obtain ⟨f, rfl⟩ : ∃ k, f = k + 1 := ⟨f - 1, by omega⟩
    exact br_t (by decide) (hp op (fun j hj => hI.2 j (by omega) hj))
  | succ k ih =>
    intro f op hk hf hI
    obtain ⟨f, rfl⟩ : ∃ k, f = k + 1 := ⟨f - 1, by omega⟩
    obtain ⟨i1, i2⟩ := hI
    rw [nI_pred]
    have ik : vp_in (nI k) 16 := vp_in_nI (by omega) (by omega)
    have he := cq_e_le l z k
    have fin : ∀ op', op' k = cq_bI (cq_on l n p m z k) → (∀ j, j ≠ k → op' j = op j) → wX_markOpenQueues_72 post (wX_markOpenQueues_30 post (nI c) (nI l) (nI n) (lN (cq_t z)) f) (nI k) (nI c) (nI l) (nI n) (lN (cq_t z)) (cq_P p) (cq_A (cq_cc p n)) (cq_A g) (cq_A m) (cq_A (cq_u p z)) (cq_A (cq_r z)) (cq_A (cq_h z)) (cq_G (cq_lv z) (cq_id z)) (cq_A (cq_cl z)) (cq_A (cq_cu z)) op' := by
      intro op' e1 e2
      refine cq_x_m72 hT hn (by omega) e1 (fun j hj => ?_) (fun j a b => ?_) (fun op'' h => ih f op'' (by omega) (by omega) h)
      · obtain ⟨b, b1, b2⟩ := i1 j (by omega)
        exact ⟨b, (e2 j (by omega)).trans b1, b2⟩
      · exact (e2 j (by omega)).trans (i2 j a b)
    refine br_f (nI_pos (by omega)) ⟨ik, cq_if (cq_c1 hn (by omega)) (fun e => ?_) (fun e => ?_)⟩
    · have eo : cq_on l n p m z k = cq_le l n p m z k := cq_op_leaf hT (by omega) e
      have ele : cq_le l n p m z k = (decide (cq_cc p n k = 0) && decide (0 < cq_e l z k) && cq_rm p m (cq_u p z) k) := rfl
      rw [show decide (cq_cc p n k = 0) = true by simpa using e, Bool.true_and] at ele
      have no : cq_on l n p m z k = false → wX_markOpenQueues_70 post (wX_markOpenQueues_30 post (nI c) (nI l) (nI n) (lN (cq_t z)) f) (nI k) (nI k) (nI c) (nI l) (nI n) (lN (cq_t z)) (cq_P p) (cq_A (cq_cc p n)) (cq_A g) (cq_A m) (cq_A (cq_u p z)) (cq_A (cq_r z)) (cq_A (cq_h z)) (cq_G (cq_lv z) (cq_id z)) (cq_A (cq_cl z)) (cq_A (cq_cu z)) op := by
        intro w
        refine ⟨ik, nm_r (e' := upd op k 0) (by rw [nI_clamp (by omega), cq_nar0]) (fin _ ?_ (fun j hj => pk_un hj))⟩
        rw [w]
        exact pk_us
      refine cq_x_eligibleDemand hn h3 hD hB (by omega) ?_
      by_cases e5 : 0 < cq_e l z k
      · refine br_f (by rw [show (0 : Int64) = lN 0 from rfl, lN_le (by omega) (by decide)]; omega) (cq_x_pathHasRoom hJ' (by omega) (cq_b0 (fun e6 => no ?_) (fun e6 => ⟨ik, nm_r (e' := upd op k 1) (by rw [nI_clamp (by omega), cq_nar1]) (fin _ ?_ (fun j hj => pk_un hj))⟩)))
        · rw [eo, ele, e6, Bool.and_false]
        · rw [eo, ele, e6, show decide (0 < cq_e l z k) = true by simpa using e5]
          exact pk_us
      · refine br_t (by rw [show (0 : Int64) = lN 0 from rfl, lN_le (by omega) (by decide)]; omega) (no ?_)
        rw [eo, ele, show decide (0 < cq_e l z k) = false by simpa using e5, Bool.false_and]
    · refine fin op ?_ (fun j _ => rfl)
      obtain ⟨b, b1, b2⟩ := i1 k (by omega)
      rw [b1]
      congr 1
      rw [Bool.eq_iff_iff, b2]
      refine Iff.trans ?_ (cq_op_in hT e).symm
      constructor
      · rintro ⟨i, x1, x2, x3, x4, x5⟩
        exact ⟨i, x3, x2, x4, x5⟩
      · rintro ⟨i, x3, x2, x4, x5⟩
        have := hT i (by omega) x2
        exact ⟨i, by omega, x2, x3, x4, x5⟩
theorem cq_x_m2 (hJ : cq_J c l n p g m) (hD : cq_D T' B' n p z) (hB : B' < 2 ^ 30) (hp : ∀ op', (∀ j, j < n → op' j = cq_bI (cq_on l n p m z j)) → post (cq_X c l n p g m z op')) : ∀ d j f op, j + d = n → d < f → (∀ i, i < j → op i = 0) → wX_markOpenQueues_2 post (nI c) (nI l) (nI n) (lN (cq_t z)) f (nI j) (cq_P p) (cq_A (cq_cc p n)) (cq_A g) (cq_A m) (cq_A (cq_u p z)) (cq_A (cq_r z)) (cq_A (cq_h z)) (cq_G (cq_lv z) (cq_id z)) (cq_A (cq_cl z)) (cq_A (cq_cu z)) op := by
  have hn := hJ.1.2.2.2.2
  intro d
  induction d with
  | zero =>
    intro j f op hj hf hh
    obtain ⟨f, rfl⟩ : ∃ k, f = k + 1 := ⟨f - 1, by omega⟩
    refine pk_le n j (fun _ => nm_e (Exists.intro (n + 1) (cq_x_m30 hJ hD hB hp n (n + 1) op (Nat.le_refl _) (by omega) ⟨fun i hi => ⟨false, hh i (by omega), fun w => absurd w (by decide), ?_⟩, fun i a b => by omega⟩))) (fun h => by omega)
    rintro ⟨k, a, b, _⟩
    omega
  | succ d ih =>
    intro j f op hj hf hh
    obtain ⟨f, rfl⟩ : ∃ k, f = k + 1 := ⟨f - 1, by omega⟩
    refine pk_le n j (fun h => by omega) (fun _ => ⟨vp_in_nI (by omega) (by omega), nm_r (e' := upd op j 0) (by rw [nI_clamp (by omega)]) (nm_r (nI_1 j) (ih (j + 1) f _ (by omega) (by omega) (fun i hi => ?_)))⟩)
    by_cases w : i = j
    · subst w
      exact pk_us
    · rw [pk_un w]
      exact hh i (by omega)
theorem cq_x_mark (hJ : cq_J c l n p g m) (hD : cq_D T' B' n p z) (hB : B' < 2 ^ 30) (hp : ∀ op', (∀ j, j < n → op' j = cq_bI (cq_on l n p m z j)) → post (cq_X c l n p g m z op')) : wpX_markOpenQueues post (cq_X c l n p g m z op) :=
  Exists.intro (n + 1) (cq_x_m2 hJ hD hB hp n 0 (n + 1) op (by omega) (by omega) (fun i hi => by omega))
end
end
section
/-! the class: the lightest leaf, grant, fill -/
section
variable {c l n : Nat} {p g m : Nat → Nat} {z : cq_Z} {op : Nat → Int32} {A B : Prop} {T' B' : Nat}
theorem cq_lc_s (l n : Nat) (p g m : Nat → Nat) (z : cq_Z) (q i : Nat) : cq_lc l n p g m z q (i + 1) = (match cq_lc l n p g m z q i with
    | none => if cq_oc l n p m z q i then some i else none
    | some j => if cq_oc l n p m z q i && cq_lt g (cq_u p z) i j then some i else some j) := rfl
theorem cq_x_lc (hJ : cq_J c l n p g m) (hO : ∀ j, j < n → op j = cq_bI (cq_on l n p m z j)) {q : Nat} (hq : q < 2 ^ 31) {post : Int32 → Prop} (hp : post (cq_oI (cq_lc l n p g m z q n))) : ∀ d i f, i + d = n → d < f → wX_lightestOpenChild_4 post (nI q) (nI c) (nI l) (nI n) (lN (cq_t z)) (cq_P p) (cq_A (cq_cc p n)) (cq_A g) (cq_A m) (cq_A (cq_u p z)) (cq_A (cq_r z)) (cq_A (cq_h z)) (cq_G (cq_lv z) (cq_id z)) (cq_A (cq_cl z)) (cq_A (cq_cu z)) op f (cq_oI (cq_lc l n p g m z q i)) (nI i) := by
  have hJ' := hJ
  obtain ⟨⟨h1, h2, h3, h4, hn⟩, hT, hg, hm, h0⟩ := hJ
  intro d
  induction d with
  | zero =>
    intro i f hi hf
    obtain ⟨f, rfl⟩ : ∃ k, f = k + 1 := ⟨f - 1, by omega⟩
    have e : i = n := by omega
    subst e
    exact pk_le i i (fun _ => hp) (fun h => by omega)
  | succ d ih =>
    intro i f hi hf
    obtain ⟨f, rfl⟩ : ∃ k, f = k + 1 := ⟨f - 1, by omega⟩
    have ih' := ih (i + 1) f (by omega) (by omega)
    have ii : vp_in (nI i) 16 := vp_in_nI (by omega) (by omega)
    have keep : cq_oc l n p m z q i = false → wX_lightestOpenChild_4 post (nI q) (nI c) (nI l) (nI n) (lN (cq_t z)) (cq_P p) (cq_A (cq_cc p n)) (cq_A g) (cq_A m) (cq_A (cq_u p z)) (cq_A (cq_r z)) (cq_A (cq_h z)) (cq_G (cq_lv z) (cq_id z)) (cq_A (cq_cl z)) (cq_A (cq_cu z)) op f (cq_oI (cq_lc l n p g m z q i)) (nI (i + 1)) := by
      intro e
      have e' : cq_lc l n p g m z q (i + 1) = cq_lc l n p g m z q i := cq_fo_k e
      rw [e'] at ih'
      exact ih'
    refine pk_le n i (fun h => by omega) (fun _ => ⟨ii, ?_⟩)
    by_cases e0 : i = 0
    · subst e0
      exact br_f (cq_pe0 hq) (nm_r (nI_1 0) (keep (by unfold cq_oc; simp)))
    · refine cq_if (cq_pe hT hn e0 (by omega) hq) (fun e => ⟨ii, ?_⟩) (fun e => nm_r (nI_1 i) (keep (cq_oc_no e0 e)))
      rw [nI_clamp (by omega), hO i (by omega)]
      refine cq_b0 (fun e2 => nm_r (nI_1 i) (keep (by rw [cq_oc_op e0 e]; exact e2))) (fun e2 => ?_)
      have oc : cq_oc l n p m z q i = true := by rw [cq_oc_op e0 e]; exact e2
      cases es : cq_lc l n p g m z q i with
      | none =>
        rw [cq_lc_s, es] at ih'
        dsimp only at ih'
        rw [if_pos oc] at ih'
        exact br_t rfl (nm_r (nI_1 i) ih')
      | some b =>
        obtain ⟨b1, b2, b3, b4⟩ := cq_lc_some es
        rw [cq_lc_s, es] at ih'
        dsimp only at ih'
        rw [oc, Bool.true_and] at ih'
        refine br_f (cq_m1 (by omega)) (cq_x_isLighter hJ' (by omega) (by omega) (cq_b0 (fun e3 => nm_r (nI_1 i) ?_) (fun e3 => nm_r (nI_1 i) ?_)))
        · rw [e3] at ih'
          exact ih'
        · rw [e3] at ih'
          exact ih'
theorem cq_x_lightestOpenChild (hJ : cq_J c l n p g m) (hO : ∀ j, j < n → op j = cq_bI (cq_on l n p m z j)) {q : Nat} (hq : q < 2 ^ 31) {post : Int32 → Prop} (hp : post (cq_oI (cq_lc l n p g m z q n))) : wpX_lightestOpenChild post (cq_X c l n p g m z op) (nI q) :=
  Exists.intro (n + 1) (cq_x_lc hJ hO hq hp n 0 (n + 1) (by omega) (by omega))
theorem cq_lf_s (l n : Nat) (p g m : Nat → Nat) (z : cq_Z) (f q : Nat) : cq_lf l n p g m z (f + 1) q = (if cq_cc p n q = 0 then q else match cq_lc l n p g m z q n with
    | none => q
    | some b => cq_lf l n p g m z f b) := rfl
theorem cq_x_lf (hJ : cq_J c l n p g m) (hO : ∀ j, j < n → op j = cq_bI (cq_on l n p m z j)) {post : Int32 → Prop} : ∀ k q i f, i + k = 16 → q < n → k < f → post (nI (cq_lf l n p g m z k q)) → wX_lightestOpenLeaf_4 post (nI c) (nI l) (nI n) (lN (cq_t z)) (cq_P p) (cq_A (cq_cc p n)) (cq_A g) (cq_A m) (cq_A (cq_u p z)) (cq_A (cq_r z)) (cq_A (cq_h z)) (cq_G (cq_lv z) (cq_id z)) (cq_A (cq_cl z)) (cq_A (cq_cu z)) op f (nI q) (nI i) := by
  have hn := hJ.1.2.2.2.2
  intro k
  induction k with
  | zero =>
    intro q i f hi hq hf hp
    obtain ⟨f, rfl⟩ : ∃ k, f = k + 1 := ⟨f - 1, by omega⟩
    exact pk_le 16 i (fun _ => hp) (fun h => by omega)
  | succ k ih =>
    intro q i f hi hq hf hp
    obtain ⟨f, rfl⟩ : ∃ k, f = k + 1 := ⟨f - 1, by omega⟩
    have hc := cq_cc_le p n q
    rw [cq_lf_s] at hp
    refine pk_le 16 i (fun h => by omega) (fun _ => ⟨vp_in_nI (by omega) (by omega), cq_if (cq_g0 (f := cq_cc p n) (by omega) (by omega)) (fun e => ?_) (fun e => cq_x_lightestOpenChild hJ hO (by omega) ?_)⟩)
    · rw [if_pos e] at hp
      exact hp
    · rw [if_neg e] at hp
      cases es : cq_lc l n p g m z q n with
      | none =>
        rw [es] at hp
        exact br_t rfl hp
      | some b =>
        rw [es] at hp
        obtain ⟨b1, b2, b3, b4⟩ := cq_lc_some es
        exact br_f (cq_m1 (by omega)) (nm_r (nI_1 i) (ih b (i + 1) f (by omega) b1 (by omega) hp))
theorem cq_x_lightestOpenLeaf (hJ : cq_J c l n p g m) (hO : ∀ j, j < n → op j = cq_bI (cq_on l n p m z j)) {post : Int32 → Prop} (hp : post (nI (cq_lf l n p g m z 16 0))) : wpX_lightestOpenLeaf post (cq_X c l n p g m z op) :=
  Exists.intro 17 (cq_x_lf hJ hO 16 0 0 17 (by omega) (by have := hJ.1; omega) (by omega) hp)
theorem cq_x_ls (hn : n ≤ 16) (h64 : l ≤ 64) (hD : cq_D T' B' n p z) (hB : B' < 2 ^ 30) {x : Nat} (hx : x < n) {post : Int32 → Prop} (hp : post (cq_oI (cq_us4 l z x 4))) : ∀ d k f, k + d = 4 → d < f → wX_leastServedUser_4 post (nI x) (nI c) (nI l) (nI n) (lN (cq_t z)) (cq_P p) (cq_A (cq_cc p n)) (cq_A g) (cq_A m) (cq_A (cq_u p z)) (cq_A (cq_r z)) (cq_A (cq_h z)) (cq_G (cq_lv z) (cq_id z)) (cq_A (cq_cl z)) (cq_A (cq_cu z)) op f (cq_oI (cq_us4 l z x k)) (nI k) := by
  intro d
  induction d with
  | zero =>
    intro k f hk hf
    obtain ⟨f, rfl⟩ : ∃ k, f = k + 1 := ⟨f - 1, by omega⟩
    have e : k = 4 := by omega
    subst e
    exact pk_le 4 4 (fun _ => hp) (fun h => by omega)
  | succ d ih =>
    intro k f hk hf
    obtain ⟨f, rfl⟩ : ∃ k, f = k + 1 := ⟨f - 1, by omega⟩
    have ih' := ih (k + 1) f (by omega) (by omega)
    have hh : cq_h z (x * 4 + k) ≤ 64 := cq_hs_le _ _ _ _
    have hr := hD.2.1 (x * 4 + k)
    have i4 : vp_in (nI (x * 4 + k)) 64 := vp_in_nI (by omega) (by omega)
    have keep : ¬ (0 < cq_r z (x * 4 + k) ∧ cq_h z (x * 4 + k) < l) → wX_leastServedUser_4 post (nI x) (nI c) (nI l) (nI n) (lN (cq_t z)) (cq_P p) (cq_A (cq_cc p n)) (cq_A g) (cq_A m) (cq_A (cq_u p z)) (cq_A (cq_r z)) (cq_A (cq_h z)) (cq_G (cq_lv z) (cq_id z)) (cq_A (cq_cl z)) (cq_A (cq_cu z)) op f (cq_oI (cq_us4 l z x k)) (nI (k + 1)) := by
      intro h
      have e' : cq_us4 l z x (k + 1) = cq_us4 l z x k := by
        apply cq_us4_k
        unfold cq_ue
        cases e : (decide (0 < cq_r z (x * 4 + k)) && decide (cq_h z (x * 4 + k) < l)) with
        | false => rfl
        | true =>
          simp only [Bool.and_eq_true, decide_eq_true_eq] at e
          exact absurd e h
      rw [e'] at ih'
      exact ih'
    refine pk_le 4 k (fun h => by omega) (fun _ => nm_r (cq_ix x k) ⟨i4, cq_if (cq_g0 (f := cq_r z) (by omega) (by omega)) (fun e => br_t rfl (nm_r (nI_1 k) (keep (by omega)))) (fun e => ⟨i4, cq_if (d := l ≤ cq_h z (x * 4 + k)) (by rw [cq_rA (cq_h z) (by omega)]; exact nI_leI (by omega) (by omega)) (fun e2 => br_t rfl (nm_r (nI_1 k) (keep (by omega)))) (fun e2 => br_f (by decide) ?_)⟩)⟩)
    have ue1 : cq_ue l z x k = true := by
      unfold cq_ue
      simp only [Bool.and_eq_true, decide_eq_true_eq]
      omega
    rw [cq_us4_s] at ih'
    cases es : cq_us4 l z x k with
    | none =>
      rw [es] at ih'
      dsimp only at ih'
      rw [if_pos ue1] at ih'
      exact br_t rfl (nm_r (nI_1 k) ih')
    | some y =>
      have hy := cq_us4_4 es
      have hh2 : cq_h z (x * 4 + y) ≤ 64 := cq_hs_le _ _ _ _
      rw [es] at ih'
      dsimp only at ih'
      rw [ue1, Bool.true_and] at ih'
      refine br_f (cq_m1 (by omega)) ⟨i4, by show vp_in (nI x * 4 + nI y) 64; rw [cq_ix]; exact vp_in_nI (by omega) (by omega), cq_if (d := cq_h z (x * 4 + y) ≤ cq_h z (x * 4 + k)) (by show cq_A (cq_h z) (nI x * 4 + nI y).toNatClampNeg ≤ _ ↔ _; rw [cq_ix, cq_rA (cq_h z) (by omega), cq_rA (cq_h z) (by omega)]; exact nI_leI (by omega) (by omega)) (fun e3 => nm_r (nI_1 k) ?_) (fun e3 => nm_r (nI_1 k) ?_)⟩
      · rw [show cq_ubt z x k y = false by unfold cq_ubt; simpa using e3] at ih'
        exact ih'
      · rw [show cq_ubt z x k y = true by unfold cq_ubt; simpa using e3] at ih'
        exact ih'
theorem cq_x_leastServedUser (hn : n ≤ 16) (h64 : l ≤ 64) (hD : cq_D T' B' n p z) (hB : B' < 2 ^ 30) {x : Nat} (hx : x < n) {post : Int32 → Prop} (hp : post (cq_oI (cq_us4 l z x 4))) : wpX_leastServedUser post (cq_X c l n p g m z op) (nI x) :=
  Exists.intro 5 (cq_x_ls hn h64 hD hB hx hp 4 0 5 (by omega) (by omega))
theorem cq_x_grant (hT : cq_T p n) (hn : n ≤ 16) (h64 : l ≤ 64) (hD : cq_D T' B' n p z) (hB : B' < 2 ^ 30) (hT' : T' < 2 ^ 31) {x : Nat} (hx : x < n) {post : St2 → Prop} (hp : post (cq_X c l n p g m (cq_gr l x z) op)) : wpX_grant post (cq_X c l n p g m z op) (nI x) := by
  unfold wpX_grant
  refine cq_x_leastServedUser hn h64 hD hB hx (cq_x_slotHolding (F := cq_fr z) (fun i _ => cq_F0 hD hT' i) ?_)
  unfold cq_gr at hp
  cases ey : cq_us4 l z x 4 with
  | none =>
    rw [ey] at hp
    exact br_t rfl hp
  | some y =>
    obtain ⟨y1, y2, y3⟩ := cq_us4_lt ey
    rw [ey] at hp
    dsimp only at hp
    refine br_f (cq_m1 (by omega)) ?_
    cases es : cq_fnd (cq_fr z) 0 64 with
    | none =>
      have es' : cq_sl z = none := es
      rw [es'] at hp
      exact br_t rfl hp
    | some s =>
      have es' : cq_sl z = some s := es
      obtain ⟨s1, s2⟩ := cq_sl_lt es'
      rw [es'] at hp
      dsimp only at hp
      have ix : vp_in (nI x * 4 + nI y) 64 := by rw [cq_ix]; exact vp_in_nI (by omega) (by omega)
      have is : vp_in (nI s) 64 := vp_in_nI (by omega) (by omega)
      have hh := cq_h_put x y s1 s2
      have hu := cq_u_put p x y s1 s2
      have eh : cq_up (cq_h z) (x * 4 + y) (cq_h z (x * 4 + y) + 1) = cq_h (cq_put z x y s) := by
        funext j
        have := hh j
        by_cases w : j = x * 4 + y
        · subst w
          rw [if_pos (by simp)] at this
          rw [cq_up_s, this]
        · rw [if_neg (by simp; omega)] at this
          rw [cq_up_n w, this]
          rfl
      have eu : (fun q => if cq_un p x q then cq_A (cq_u p z) q + 1 else cq_A (cq_u p z) q) = cq_A (cq_u p (cq_put z x y s)) := by
        funext q
        have := hu q
        unfold cq_A
        by_cases w : cq_un p x q = true
        · rw [if_pos w] at this ⊢
          rw [this, nI_1]
        · rw [if_neg w] at this ⊢
          rw [this]
          rfl
      refine br_f (cq_m1 (by omega)) ⟨ix, ix, nm_r (cq_w_dec (by omega) y2) ⟨ix, ix, nm_r (cq_w_inc (by omega)) ⟨is, nm_r (e' := cq_G (cq_ub (cq_lv z) s true) (cq_up (cq_id z) s (cq_t z))) (by show vp_updL _ (nI s).toNatClampNeg _ = _; rw [nI_clamp (by omega)]; exact cq_G_up _ _ _ _) ⟨is, nm_r (cq_w_set _ (by omega)) ⟨is, nm_r (cq_w_set _ (by omega)) (nm_r (lN_1 _) (cq_x_addToPath hT hn hx ?_))⟩⟩⟩⟩⟩
      rw [eh, eu]
      exact hp
theorem cq_x_fl (hJ : cq_J c l n p g m) (hB : B' < 2 ^ 30) {post : Int32 → St2 → Prop} : ∀ d i f z op T', i + d = c → cq_D T' B' n p z → T' + d < 2 ^ 31 → d < f → (∀ op', post (nI (i + cq_fn l n p g m d z)) (cq_X c l n p g m (cq_fz l n p g m d z) op')) → wX_fill_4 post f (nI i) (nI i) (nI c) (nI l) (nI n) (lN (cq_t z)) (cq_P p) (cq_A (cq_cc p n)) (cq_A g) (cq_A m) (cq_A (cq_u p z)) (cq_A (cq_r z)) (cq_A (cq_h z)) (cq_G (cq_lv z) (cq_id z)) (cq_A (cq_cl z)) (cq_A (cq_cu z)) op := by
  have hJ' := hJ
  obtain ⟨⟨h1, h2, h3, h4, hn⟩, hT, hg, hm, h0⟩ := hJ
  intro d
  induction d with
  | zero =>
    intro i f z op T' hi hD hT' hf hp
    obtain ⟨f, rfl⟩ : ∃ k, f = k + 1 := ⟨f - 1, by omega⟩
    exact pk_le c i (fun _ => hp op) (fun h => by omega)
  | succ d ih =>
    intro i f z op T' hi hD hT' hf hp
    obtain ⟨f, rfl⟩ : ∃ k, f = k + 1 := ⟨f - 1, by omega⟩
    refine pk_le c i (fun h => by omega) (fun _ => cq_x_mark hJ' hD hB (fun op' hO => ?_))
    show ((op' 0 = 0 → _) ∧ (¬ op' 0 = 0 → _))
    rw [hO 0 (by omega)]
    unfold cq_fz cq_fn at hp
    cases ho : cq_on l n p m z 0 with
    | false =>
      rw [ho] at hp
      exact br_t rfl (hp op')
    | true =>
      rw [ho] at hp
      have hx := cq_lf_ok (g := g) hT 16 0 (by omega) (by omega) ho
      refine br_f (by decide) (cq_x_lightestOpenLeaf hJ' hO (cq_x_grant hT hn h3 hD hB (by omega) hx.1 (nm_r (nI_1 i) (nm_r (nI_1 i) (ih (i + 1) f (cq_nx l n p g m z) op' (T' + 1) (by omega) (cq_nx_D hT h4 hn hD ho) (by omega) (by omega) (fun op'' => ?_))))))
      rw [show i + 1 + cq_fn l n p g m d (cq_nx l n p g m z) = i + (cq_fn l n p g m d (cq_nx l n p g m z) + 1) by omega]
      exact hp op''
theorem cq_x_fill (hJ : cq_J c l n p g m) (hB : B' < 2 ^ 30) (hD : cq_D T' B' n p z) (hT' : T' + c < 2 ^ 31) {post : Int32 → St2 → Prop} (hp : ∀ op', post (nI (cq_fn l n p g m c z)) (cq_X c l n p g m (cq_fz l n p g m c z) op')) : wpX_fill post (cq_X c l n p g m z op) :=
  Exists.intro (c + 1) (cq_x_fl hJ hB c 0 (c + 1) z op T' (by omega) hD hT' (by omega) (by rw [Nat.zero_add]; exact hp))
end
end
section
/-! the class: taking back -/
section
variable {c l n : Nat} {p g m : Nat → Nat} {z : cq_Z} {op : Nat → Int32} {A B : Prop} {T' B' : Nat}
theorem cq_fa_s (p m : Nat → Nat) (z : cq_Z) (f x : Nat) : cq_fa p m z (f + 1) x = (if cq_u p z x = m x then some x else if x = 0 then none else cq_fa p m z f (p x)) := rfl
theorem cq_fa_un (hT : cq_T p n) : ∀ f x a, x < n → cq_fa p m z f x = some a → cq_un p x a = true := by
  intro f
  induction f with
  | zero =>
    intro x a _ h
    exact absurd h (by simp [cq_fa])
  | succ f ih =>
    intro x a hx h
    rw [cq_fa_s] at h
    by_cases e : cq_u p z x = m x
    · rw [if_pos e] at h
      cases h
      exact cq_un_self p x
    · rw [if_neg e] at h
      by_cases e0 : x = 0
      · rw [if_pos e0] at h
        exact absurd h (by simp)
      · rw [if_neg e0] at h
        have hp := hT x (by omega) hx
        rw [cq_un_p hT e0 hx, ih (p x) a (by omega) h]
        simp
theorem cq_fs_in (hT : cq_T p n) {s a : Nat} (hs : s < n) (h : cq_fs p m z s = some a) : s ≠ 0 ∧ a < n ∧ cq_cc p n a ≠ 0 := by
  unfold cq_fs at h
  by_cases e0 : s = 0
  · rw [if_pos e0] at h
    exact absurd h (by simp)
  · rw [if_neg e0] at h
    have hp := hT s (by omega) hs
    have h1 := cq_fa_un hT 16 (p s) a (by omega) h
    have h2 := cq_un_le hT (p s + 1) (p s) a (by omega) (by omega) h1
    have h3 : cq_un p s a = true := by
      rw [cq_un_p hT e0 hs, h1]
      simp
    obtain ⟨j, a1, a2, a3, _⟩ := cq_un_ch hT (s + 1) s (by omega) hs h3 (by omega)
    exact ⟨e0, by omega, fun w => cq_cc_0 w a1 a2 a3⟩
theorem cq_st_no {q : Nat} (h : ¬ (cq_cc p n q = 0 ∧ cq_u p z q < g q ∧ 0 < cq_e l z q)) : ¬ cq_st l n p g z q = true := by
  intro e
  unfold cq_st at e
  simp only [Bool.and_eq_true, decide_eq_true_eq] at e
  exact h ⟨e.1.1, e.1.2, e.2⟩
theorem cq_st_yes {q : Nat} (h1 : cq_cc p n q = 0) (h2 : cq_u p z q < g q) (h3 : 0 < cq_e l z q) : cq_st l n p g z q = true := by
  unfold cq_st
  simp only [Bool.and_eq_true, decide_eq_true_eq]
  exact ⟨⟨h1, h2⟩, h3⟩
theorem cq_x_sv (hJ : cq_J c l n p g m) (hD : cq_D T' B' n p z) (hB : B' < 2 ^ 30) {post : Int32 → Prop} : ∀ d i f, i + d = n → d < f → post (cq_oI (cq_fnd (cq_st l n p g z) i d)) → wX_lowestStarvedLeaf_2 post (nI c) (nI l) (nI n) (lN (cq_t z)) (cq_P p) (cq_A (cq_cc p n)) (cq_A g) (cq_A m) (cq_A (cq_u p z)) (cq_A (cq_r z)) (cq_A (cq_h z)) (cq_G (cq_lv z) (cq_id z)) (cq_A (cq_cl z)) (cq_A (cq_cu z)) op f (nI i) := by
  have hJ' := hJ
  obtain ⟨⟨h1, h2, h3, h4, hn⟩, hT, hg, hm, h0⟩ := hJ
  intro d
  induction d with
  | zero =>
    intro i f hi hf hp
    obtain ⟨f, rfl⟩ : ∃ k, f = k + 1 := ⟨f - 1, by omega⟩
    exact pk_le n i (fun _ => hp) (fun h => by omega)
  | succ d ih =>
    intro i f hi hf hp
    obtain ⟨f, rfl⟩ : ∃ k, f = k + 1 := ⟨f - 1, by omega⟩
    have ii : vp_in (nI i) 16 := vp_in_nI (by omega) (by omega)
    have hu : cq_u p z i ≤ 64 := cq_us_le _ _ _ _
    have hgi := hg i
    have he := cq_e_le l z i
    rw [cq_fnd_s] at hp
    have nxt : ¬ (cq_cc p n i = 0 ∧ cq_u p z i < g i ∧ 0 < cq_e l z i) → wX_lowestStarvedLeaf_2 post (nI c) (nI l) (nI n) (lN (cq_t z)) (cq_P p) (cq_A (cq_cc p n)) (cq_A g) (cq_A m) (cq_A (cq_u p z)) (cq_A (cq_r z)) (cq_A (cq_h z)) (cq_G (cq_lv z) (cq_id z)) (cq_A (cq_cl z)) (cq_A (cq_cu z)) op f (nI (i + 1)) := by
      intro h
      rw [if_neg (cq_st_no h)] at hp
      exact ih (i + 1) f (by omega) (by omega) hp
    refine pk_le n i (fun h => by omega) (fun _ => ⟨ii, cq_if (cq_c1 hn (by omega)) (fun e => ⟨ii, ii, cq_if (d := g i ≤ cq_u p z i) (by rw [cq_rA g (by omega), cq_rA (cq_u p z) (by omega)]; exact nI_leI (by omega) (by omega)) (fun e2 => nm_r (nI_1 i) (nxt (by omega))) (fun e2 => cq_x_eligibleDemand hn h3 hD hB (by omega) ?_)⟩) (fun e => nm_r (nI_1 i) (nxt (by omega)))⟩)
    by_cases e3 : 0 < cq_e l z i
    · refine br_f (by rw [show (0 : Int64) = lN 0 from rfl, lN_le (by omega) (by decide)]; omega) ?_
      rw [if_pos (cq_st_yes e (by omega) e3)] at hp
      exact hp
    · exact br_t (by rw [show (0 : Int64) = lN 0 from rfl, lN_le (by omega) (by decide)]; omega) (nm_r (nI_1 i) (nxt (by omega)))
theorem cq_x_lowestStarvedLeaf (hJ : cq_J c l n p g m) (hD : cq_D T' B' n p z) (hB : B' < 2 ^ 30) {post : Int32 → Prop} (hp : post (cq_oI (cq_sv l n p g z))) : wpX_lowestStarvedLeaf post (cq_X c l n p g m z op) :=
  Exists.intro (n + 1) (cq_x_sv hJ hD hB n 0 (n + 1) (by omega) (by omega) hp)
theorem cq_x_fa (hJ : cq_J c l n p g m) {post : Int32 → Prop} : ∀ k x i f, i + k = 16 → x < n → k + 1 < f → post (cq_oI (cq_fa p m z k x)) → wX_nearestFullAncestor_9 post (nI c) (nI l) (nI n) (lN (cq_t z)) (cq_P p) (cq_A (cq_cc p n)) (cq_A g) (cq_A m) (cq_A (cq_u p z)) (cq_A (cq_r z)) (cq_A (cq_h z)) (cq_G (cq_lv z) (cq_id z)) (cq_A (cq_cl z)) (cq_A (cq_cu z)) op f (nI x) (nI i) := by
  obtain ⟨⟨h1, h2, h3, h4, hn⟩, hT, hg, hm, h0⟩ := hJ
  intro k
  induction k with
  | zero =>
    intro x i f hi hx hf hp
    obtain ⟨f, rfl⟩ : ∃ k, f = k + 1 := ⟨f - 1, by omega⟩
    exact pk_le 16 i (fun _ => hp) (fun h => by omega)
  | succ k ih =>
    intro x i f hi hx hf hp
    obtain ⟨f, rfl⟩ : ∃ k, f = k + 1 := ⟨f - 1, by omega⟩
    have ix : vp_in (nI x) 16 := vp_in_nI (by omega) (by omega)
    have hu : cq_u p z x ≤ 64 := cq_us_le _ _ _ _
    have hmx := hm x
    rw [cq_fa_s] at hp
    refine pk_le 16 i (fun h => by omega) (fun _ => br_f (cq_m1 (by omega)) ⟨ix, ix, cq_if (d := cq_u p z x = m x) (by rw [cq_rA m (by omega), cq_rA (cq_u p z) (by omega)]; exact nI_eq (by omega) (by omega)) (fun e => ?_) (fun e => ⟨ix, ?_⟩)⟩)
    · rw [if_pos e] at hp
      exact hp
    · rw [if_neg e] at hp
      by_cases e0 : x = 0
      · subst e0
        rw [if_pos rfl] at hp
        refine nm_r (cq_rP0 p) (nm_r (nI_1 i) ?_)
        obtain ⟨f, rfl⟩ : ∃ k, f = k + 1 := ⟨f - 1, by omega⟩
        exact pk_le 16 (i + 1) (fun _ => hp) (fun _ => br_t rfl hp)
      · rw [if_neg e0] at hp
        have := hT x (by omega) hx
        exact nm_r (cq_rPp p e0 (by omega)) (nm_r (nI_1 i) (ih (p x) (i + 1) f (by omega) (by omega) (by omega) hp))
theorem cq_x_nearestFullAncestor (hJ : cq_J c l n p g m) {s : Nat} (hs : s < n) {post : Int32 → Prop} (hp : post (cq_oI (cq_fs p m z s))) : wpX_nearestFullAncestor post (cq_X c l n p g m z op) (nI s) := by
  have hn := hJ.1.2.2.2.2
  unfold cq_fs at hp
  refine ⟨vp_in_nI (by omega) (by omega), ?_⟩
  by_cases e0 : s = 0
  · subst e0
    rw [if_pos rfl] at hp
    exact nm_r (cq_rP0 p) (Exists.intro 1 (pk_le 16 0 (fun h => by omega) (fun _ => br_t rfl hp)))
  · rw [if_neg e0] at hp
    have := hJ.2.1 s (by omega) hs
    exact nm_r (cq_rPp p e0 (by omega)) (Exists.intro 18 (cq_x_fa hJ 16 (p s) 0 18 (by omega) (by omega) (by omega) hp))
theorem cq_x_ib (hT : cq_T p n) (hn : n ≤ 16) {a : Nat} (ha : a < 2 ^ 31) {post : Int32 → Prop} : ∀ d x i f, x < d → x < n → x + i ≤ 15 → d < f → post (cq_bI (cq_un p x a)) → wX_isBelow_10 post (nI a) (nI c) (nI l) (nI n) (lN (cq_t z)) (cq_P p) (cq_A (cq_cc p n)) (cq_A g) (cq_A m) (cq_A (cq_u p z)) (cq_A (cq_r z)) (cq_A (cq_h z)) (cq_G (cq_lv z) (cq_id z)) (cq_A (cq_cl z)) (cq_A (cq_cu z)) op f (nI x) (nI i) := by
  intro d
  induction d with
  | zero =>
    intro x i f h
    omega
  | succ d ih =>
    intro x i f hd hx hi hf hp
    obtain ⟨f, rfl⟩ : ∃ k, f = k + 1 := ⟨f - 1, by omega⟩
    refine pk_le 16 i (fun h => by omega) (fun _ => br_f (cq_m1 (by omega)) (pk_eq x a (fun e => ?_) (fun e => ⟨vp_in_nI (by omega) (by omega), ?_⟩)))
    · subst e
      rw [cq_un_self] at hp
      exact hp
    · by_cases h0 : x = 0
      · subst h0
        refine nm_r (cq_rP0 p) (nm_r (nI_1 i) ?_)
        obtain ⟨f, rfl⟩ : ∃ k, f = k + 1 := ⟨f - 1, by omega⟩
        rw [cq_un_00, show ((0 : Nat) == a) = false by simpa using e] at hp
        exact pk_le 16 (i + 1) (fun _ => hp) (fun _ => br_t rfl hp)
      · have hpx := hT x (by omega) hx
        rw [cq_un_ne hT h0 hx e] at hp
        exact nm_r (cq_rPp p h0 (by omega)) (nm_r (nI_1 i) (ih (p x) (i + 1) f (by omega) (by omega) (by omega) (by omega) hp))
theorem cq_x_isBelow (hT : cq_T p n) (hn : n ≤ 16) {x a : Nat} (hx : x < n) (ha : a < 2 ^ 31) (hne : x ≠ a) {post : Int32 → Prop} (hp : post (cq_bI (cq_un p x a))) : wpX_isBelow post (cq_X c l n p g m z op) (nI x) (nI a) := by
  refine ⟨vp_in_nI (by omega) (by omega), ?_⟩
  by_cases h0 : x = 0
  · subst h0
    rw [cq_un_00, show ((0 : Nat) == a) = false by simpa using hne] at hp
    exact nm_r (cq_rP0 p) (Exists.intro 1 (pk_le 16 0 (fun h => by omega) (fun _ => br_t rfl hp)))
  · have hpx := hT x (by omega) hx
    rw [cq_un_ne hT h0 hx hne] at hp
    exact nm_r (cq_rPp p h0 (by omega)) (Exists.intro (p x + 2) (cq_x_ib hT hn ha (p x + 1) (p x) 0 (p x + 2) (by omega) (by omega) (by omega) (by omega) hp))
def cq_bo (p g : Nat → Nat) (z : cq_Z) (a s x : Nat) : Bool := !(x == s) && decide (g x < cq_u p z x) && cq_un p x a
theorem cq_bw_t {a s i : Nat} (h : cq_lv z i = true) : cq_bw p g z a s i = cq_bo p g z a s (cq_cl z i) := by
  unfold cq_bw cq_bo
  rw [h, Bool.true_and]
theorem cq_bw_f {a s i : Nat} (h : cq_lv z i = false) : cq_bw p g z a s i = false := by
  unfold cq_bw
  rw [h]
  simp
theorem cq_x_isBorrower (hJ : cq_J c l n p g m) {x a s : Nat} (hx : x < n) (ha : a < n) (hs : s < n) (hne : x ≠ a) {post : Int32 → Prop} (hp : post (cq_bI (cq_bo p g z a s x))) : wpX_isBorrower post (cq_X c l n p g m z op) (nI x) (nI a) (nI s) := by
  obtain ⟨⟨h1, h2, h3, h4, hn⟩, hT, hg, hm, h0⟩ := hJ
  have ix : vp_in (nI x) 16 := vp_in_nI (by omega) (by omega)
  have hu : cq_u p z x ≤ 64 := cq_us_le _ _ _ _
  have hgx := hg x
  unfold cq_bo at hp
  refine pk_eq x s (fun e => ?_) (fun e => ⟨ix, ix, cq_if (d := cq_u p z x ≤ g x) (by rw [cq_rA g (by omega), cq_rA (cq_u p z) (by omega)]; exact nI_leI (by omega) (by omega)) (fun e2 => ?_) (fun e2 => cq_x_isBelow hT hn hx (by omega) hne ?_)⟩)
  · rw [show (x == s) = true by simpa using e] at hp
    exact hp
  · rw [show decide (g x < cq_u p z x) = false by simpa using e2, Bool.and_false, Bool.false_and] at hp
    exact hp
  · rw [show (x == s) = false by simpa using e, show decide (g x < cq_u p z x) = true by simpa using e2] at hp
    cases e3 : cq_un p x a with
    | false =>
      rw [e3] at hp
      exact br_t rfl hp
    | true =>
      rw [e3] at hp
      exact br_f (by decide) hp
theorem cq_vi_s (p g : Nat → Nat) (z : cq_Z) (a s i : Nat) : cq_vi p g z a s (i + 1) = (match cq_vi p g z a s i with
    | none => if cq_bw p g z a s i then some i else none
    | some j => if cq_bw p g z a s i && cq_yb z i j then some i else some j) := rfl
theorem cq_x_vi (hJ : cq_J c l n p g m) (hD : cq_D T' B' n p z) (hT' : T' < 2 ^ 31) {a s : Nat} (ha : a < n) (hs : s < n) (hc : cq_cc p n a ≠ 0) {post : Int32 → Prop} (hp : post (cq_oI (cq_vi p g z a s 64))) : ∀ d i f, i + d = 64 → d < f → wX_youngestBorrowedSlot_5 post (nI a) (nI s) (nI c) (nI l) (nI n) (lN (cq_t z)) (cq_P p) (cq_A (cq_cc p n)) (cq_A g) (cq_A m) (cq_A (cq_u p z)) (cq_A (cq_r z)) (cq_A (cq_h z)) (cq_G (cq_lv z) (cq_id z)) (cq_A (cq_cl z)) (cq_A (cq_cu z)) op f (cq_oI (cq_vi p g z a s i)) (nI i) := by
  intro d
  induction d with
  | zero =>
    intro i f hi hf
    obtain ⟨f, rfl⟩ : ∃ k, f = k + 1 := ⟨f - 1, by omega⟩
    have e : i = 64 := by omega
    subst e
    exact pk_le 64 64 (fun _ => hp) (fun h => by omega)
  | succ d ih =>
    intro i f hi hf
    obtain ⟨f, rfl⟩ : ∃ k, f = k + 1 := ⟨f - 1, by omega⟩
    have ih' := ih (i + 1) f (by omega) (by omega)
    have ii : vp_in (nI i) 64 := vp_in_nI (by omega) (by omega)
    have ht := hD.1.2
    have keep : cq_bw p g z a s i = false → wX_youngestBorrowedSlot_5 post (nI a) (nI s) (nI c) (nI l) (nI n) (lN (cq_t z)) (cq_P p) (cq_A (cq_cc p n)) (cq_A g) (cq_A m) (cq_A (cq_u p z)) (cq_A (cq_r z)) (cq_A (cq_h z)) (cq_G (cq_lv z) (cq_id z)) (cq_A (cq_cl z)) (cq_A (cq_cu z)) op f (cq_oI (cq_vi p g z a s i)) (nI (i + 1)) := by
      intro e
      have e' : cq_vi p g z a s (i + 1) = cq_vi p g z a s i := cq_fo_k e
      rw [e'] at ih'
      exact ih'
    refine pk_le 64 i (fun h => by omega) (fun _ => ⟨ii, cq_if (d := cq_fr z i = true) (by rw [nI_clamp (by omega)]; exact cq_F0 hD hT' i) (fun e => nm_r (nI_1 i) (keep (cq_bw_f (by unfold cq_fr at e; simpa using e)))) (fun e => ⟨ii, ?_⟩)⟩)
    have hl : cq_lv z i = true := by unfold cq_fr at e; simpa using e
    obtain ⟨a1, a2, a3, a4, a5⟩ := hD.2.2.2 i hl
    rw [cq_rA (cq_cl z) (by omega)]
    refine cq_x_isBorrower hJ a1 ha hs (fun w => hc (w ▸ a5)) (cq_b0 (fun e2 => nm_r (nI_1 i) (keep (by rw [cq_bw_t hl]; exact e2))) (fun e2 => ?_))
    have bw : cq_bw p g z a s i = true := by rw [cq_bw_t hl]; exact e2
    rw [cq_vi_s] at ih'
    cases es : cq_vi p g z a s i with
    | none =>
      rw [es] at ih'
      dsimp only at ih'
      rw [if_pos bw] at ih'
      exact br_t rfl (nm_r (nI_1 i) ih')
    | some j =>
      obtain ⟨j1, j2, _⟩ := cq_vi_ok es
      obtain ⟨b1, b2, b3, b4, b5⟩ := hD.2.2.2 j j2
      rw [es] at ih'
      dsimp only at ih'
      rw [bw, Bool.true_and] at ih'
      refine br_f (cq_m1 (by omega)) ⟨ii, vp_in_nI (by omega) (by omega), cq_if (d := cq_id z i ≤ cq_id z j) (by
        show cq_G (cq_lv z) (cq_id z) (nI i).toNatClampNeg ≤ cq_G (cq_lv z) (cq_id z) (nI j).toNatClampNeg ↔ _
        rw [nI_clamp (by omega), nI_clamp (by omega), cq_G_t hl, cq_G_t j2]
        exact lN_le (by omega) (by omega)) (fun e3 => nm_r (nI_1 i) ?_) (fun e3 => nm_r (nI_1 i) ?_)⟩
      · rw [show cq_yb z i j = false by unfold cq_yb; simpa using e3] at ih'
        exact ih'
      · rw [show cq_yb z i j = true by unfold cq_yb; simpa using e3] at ih'
        exact ih'
theorem cq_x_youngestBorrowedSlot (hJ : cq_J c l n p g m) (hD : cq_D T' B' n p z) (hT' : T' < 2 ^ 31) {a s : Nat} (ha : a < n) (hs : s < n) (hc : cq_cc p n a ≠ 0) {post : Int32 → Prop} (hp : post (cq_oI (cq_vi p g z a s 64))) : wpX_youngestBorrowedSlot post (cq_X c l n p g m z op) (nI a) (nI s) :=
  Exists.intro 65 (cq_x_vi hJ hD hT' ha hs hc hp 64 0 65 (by omega) (by omega))
theorem cq_x_takeBack (hJ : cq_J c l n p g m) (hD : cq_D T' B' n p z) (hB : B' + 1 < 2 ^ 30) (hT' : T' < 2 ^ 31) {post : Int32 → St2 → Prop} (h0 : cq_rd l n p g m z = none → post 0 (cq_X c l n p g m z op)) (h1 : ∀ z', cq_rd l n p g m z = some z' → post 1 (cq_X c l n p g m z' op)) : wpX_takeBackOneUnit post (cq_X c l n p g m z op) := by
  have hn := hJ.1.2.2.2.2
  have h64 := hJ.1.2.2.1
  have hT := hJ.2.1
  unfold wpX_takeBackOneUnit
  refine cq_x_lowestStarvedLeaf hJ hD (by omega) ?_
  cases es : cq_sv l n p g z with
  | none => exact br_t rfl (h0 (by unfold cq_rd; rw [es]))
  | some s =>
    obtain ⟨s1, s2, s3, s4⟩ := cq_sv_ok es
    refine br_f (cq_m1 (by omega)) (cq_x_nearestFullAncestor hJ s1 ?_)
    cases ea : cq_fs p m z s with
    | none => exact br_t rfl (h0 (by unfold cq_rd; rw [es]; dsimp only; rw [ea]))
    | some a =>
      obtain ⟨a1, a2, a3⟩ := cq_fs_in hT s1 ea
      refine br_f (cq_m1 (by omega)) (cq_x_youngestBorrowedSlot hJ hD hT' a2 s1 a3 ?_)
      cases ev : cq_vi p g z a s 64 with
      | none => exact br_t rfl (h0 (by unfold cq_rd; rw [es]; dsimp only; rw [ea]; dsimp only; rw [ev]))
      | some v =>
        obtain ⟨v1, v2, _⟩ := cq_vi_ok ev
        obtain ⟨b1, b2, b3, b4, b5⟩ := hD.2.2.2 v v2
        have hp := h1 (cq_gr l s (cq_rq z v)) (by unfold cq_rd; rw [es]; dsimp only; rw [ea]; dsimp only; rw [ev])
        have iv : vp_in (nI v) 64 := vp_in_nI (by omega) (by omega)
        have ix : vp_in (nI (cq_cl z v * 4 + cq_cu z v)) 64 := vp_in_nI (by omega) (by omega)
        refine br_f (cq_m1 (by omega)) ⟨iv, iv, nm_r (e' := nI (cq_cl z v * 4 + cq_cu z v)) (by
          show cq_A (cq_cl z) (nI v).toNatClampNeg * 4 + cq_A (cq_cu z) (nI v).toNatClampNeg = _
          rw [cq_rA (cq_cl z) (by omega), cq_rA (cq_cu z) (by omega), cq_ix]) (cq_x_remove hT hn hD v1 v2 ⟨ix, ix, nm_r (e' := cq_A (cq_r (cq_rq z v))) (by
          show upd (cq_A (cq_r z)) _ (cq_A (cq_r z) _ + 1) = _
          rw [cq_rA (cq_r z) (by omega), nI_clamp (by omega), nI_1, cq_A_up]
          rfl) (cq_x_grant (z := cq_rq z v) hT hn h64 (cq_D_rq hD v2) hB hT' s1 hp)⟩)⟩
theorem cq_pz_s (l n : Nat) (p g m : Nat → Nat) (d : Nat) (z : cq_Z) : cq_pz l n p g m (d + 1) z = (match cq_rd l n p g m z with
    | none => z
    | some z' => cq_pz l n p g m d z') := rfl
theorem cq_pn_s (l n : Nat) (p g m : Nat → Nat) (d : Nat) (z : cq_Z) : cq_pn l n p g m (d + 1) z = (match cq_rd l n p g m z with
    | none => 0
    | some z' => cq_pn l n p g m d z' + 1) := rfl
theorem cq_x_pr (hJ : cq_J c l n p g m) {post : Int32 → St2 → Prop} : ∀ d i f z T' B', i + d = 64 → cq_D T' B' n p z → T' + d < 2 ^ 30 → B' + d < 2 ^ 30 → d < f → post (nI (i + cq_pn l n p g m d z)) (cq_X c l n p g m (cq_pz l n p g m d z) op) → wX_preempt_9 post f (nI i) (nI i) (nI c) (nI l) (nI n) (lN (cq_t z)) (cq_P p) (cq_A (cq_cc p n)) (cq_A g) (cq_A m) (cq_A (cq_u p z)) (cq_A (cq_r z)) (cq_A (cq_h z)) (cq_G (cq_lv z) (cq_id z)) (cq_A (cq_cl z)) (cq_A (cq_cu z)) op := by
  intro d
  induction d with
  | zero =>
    intro i f z T' B' hi hD hT' hB hf hp
    obtain ⟨f, rfl⟩ : ∃ k, f = k + 1 := ⟨f - 1, by omega⟩
    exact pk_le 64 i (fun _ => hp) (fun h => by omega)
  | succ d ih =>
    intro i f z T' B' hi hD hT' hB hf hp
    obtain ⟨f, rfl⟩ : ∃ k, f = k + 1 := ⟨f - 1, by omega⟩
    rw [cq_pz_s, cq_pn_s] at hp
    refine pk_le 64 i (fun h => by omega) (fun _ => cq_x_takeBack hJ hD (by omega) (by omega) (fun e => ?_) (fun z' e => ?_))
    · rw [e] at hp
      exact br_t rfl hp
    · rw [e] at hp
      dsimp only at hp
      refine br_f (by decide) (nm_r (nI_1 i) (nm_r (nI_1 i) (ih (i + 1) f z' (T' + 1) (B' + 1) (by omega) (cq_rd_D hD e) (by omega) (by omega) (by omega) ?_)))
      rw [show i + 1 + cq_pn l n p g m d z' = i + (cq_pn l n p g m d z' + 1) by omega]
      exact hp
theorem cq_x_preempt (hJ : cq_J c l n p g m) (hD : cq_D T' B' n p z) (hT' : T' + 128 < 2 ^ 30) (hB : B' + 64 < 2 ^ 30) {post : Int32 → St2 → Prop} (hp : ∀ op', post (nI (cq_pn l n p g m 64 (cq_fz l n p g m c z))) (cq_X c l n p g m (cq_pz l n p g m 64 (cq_fz l n p g m c z)) op')) : wpX_preempt post (cq_X c l n p g m z op) := by
  have hh := hJ.1
  unfold wpX_preempt
  refine cq_x_fill hJ (by omega) hD (by omega) (fun op' => Exists.intro 65 (cq_x_pr hJ 64 0 65 _ (T' + c) B' (by omega) (cq_fz_D hJ.2.1 hh.2.2.2.1 hh.2.2.2.2 c T' z hD) (by omega) (by omega) (by omega) ?_))
  rw [Nat.zero_add]
  exact hp op'
end
end
section
/-! sums over the tree -/
theorem cq_un_cmp {p : Nat → Nat} {n : Nat} (hT : cq_T p n) {j k : Nat} : ∀ d x, x < d → x < n → cq_un p x j = true → cq_un p x k = true → cq_un p j k = true ∨ cq_un p k j = true := by
  intro d
  induction d with
  | zero =>
    intro x h
    omega
  | succ d ih =>
    intro x hd hx h1 h2
    by_cases e1 : x = j
    · subst e1
      exact Or.inl h2
    · by_cases e2 : x = k
      · subst e2
        exact Or.inr h1
      · by_cases e : x = 0
        · subst e
          rw [cq_un_00] at h1
          have : 0 = j := by simpa using h1
          omega
        · have hp := hT x (by omega) hx
          rw [cq_un_ne hT e hx e1] at h1
          rw [cq_un_ne hT e hx e2] at h2
          exact ih (p x) (by omega) (by omega) h1 h2
theorem cq_un_one {p : Nat → Nat} {n : Nat} (hT : cq_T p n) {x j k q : Nat} (hx : x < n) (hj : j ≠ 0) (hk : k ≠ 0) (hj' : j < n) (hk' : k < n) (pj : p j = q) (pk : p k = q) (h1 : cq_un p x j = true) (h2 : cq_un p x k = true) : j = k := by
  have aj := hT j (by omega) hj'
  have ak := hT k (by omega) hk'
  by_cases e : j = k
  · exact e
  · exfalso
    rcases cq_un_cmp hT (x + 1) x (by omega) hx h1 h2 with h | h
    · rw [cq_un_ne hT hj hj' e] at h
      have := cq_un_le hT (p j + 1) (p j) k (by omega) (by omega) h
      omega
    · rw [cq_un_ne hT hk hk' (fun z => e z.symm)] at h
      have := cq_un_le hT (p k + 1) (p k) j (by omega) (by omega) h
      omega
theorem cq_cnt_one {f : Nat → Bool} {n : Nat} (hu : ∀ i j, i < n → j < n → f i = true → f j = true → i = j) {s : Nat} (hs : s < n) (h : f s = true) : cq_cnt f n = 1 := by
  have e := cq_cnt_set (f := fun _ => false) (f' := fun i => f i && (i == s)) (s := s) (n := n) (fun i hi => by
    have : (i == s) = false := by simpa using hi
    show (f i && (i == s)) = false
    rw [this, Bool.and_false]) rfl hs
  have e2 : cq_cnt f n = cq_cnt (fun i => f i && (i == s)) n := cq_cnt_congr fun i hi => by
    show f i = (f i && (i == s))
    cases w : f i with
    | false => rfl
    | true =>
      have := hu i s hi hs w h
      subst this
      simp
  rw [e2, e, cq_cnt_0 (fun _ _ => rfl), h]
  simp
theorem cq_cs_add (p a b : Nat → Nat) (q : Nat) : ∀ n, cq_cs p (fun j => a j + b j) q n = cq_cs p a q n + cq_cs p b q n := by
  intro n
  induction n with
  | zero => rfl
  | succ n ih =>
    rw [cq_cs_s, cq_cs_s, cq_cs_s, ih]
    by_cases w : (!(n == 0) && (p n == q)) = true
    · simp only [if_pos w]
      omega
    · simp only [if_neg w]
      omega
theorem cq_cs_ind (p : Nat → Nat) (f : Nat → Bool) (q : Nat) : ∀ n, cq_cs p (fun j => if f j then 1 else 0) q n = cq_cnt (fun j => (!(j == 0) && (p j == q)) && f j) n := by
  intro n
  induction n with
  | zero => rfl
  | succ n ih =>
    rw [cq_cs_s, cq_cnt_s, ih]
    show cq_cnt _ n + (if (!(n == 0) && (p n == q)) then (if f n then 1 else 0) else 0) = cq_cnt _ n + (if ((!(n == 0) && (p n == q)) && f n) then 1 else 0)
    generalize (!(n == 0) && (p n == q)) = x
    generalize f n = y
    cases x <;> cases y <;> rfl
theorem cq_cs_congr {p a b : Nat → Nat} {q : Nat} : ∀ {n}, (∀ j, j ≠ 0 → j < n → p j = q → a j = b j) → cq_cs p a q n = cq_cs p b q n := by
  intro n
  induction n with
  | zero =>
    intro _
    rfl
  | succ n ih =>
    intro h
    show cq_cs p a q n + _ = cq_cs p b q n + _
    rw [ih (fun j h1 h2 h3 => h j h1 (by omega) h3)]
    by_cases w : (!(n == 0) && (p n == q)) = true
    · rw [if_pos w, if_pos w]
      simp only [Bool.and_eq_true, Bool.not_eq_true', beq_eq_false_iff_ne, beq_iff_eq] at w
      rw [h n w.1 (by omega) w.2]
    · rw [if_neg w, if_neg w]
theorem cq_cs_mono {p a b : Nat → Nat} {q : Nat} : ∀ {n}, (∀ j, j ≠ 0 → j < n → p j = q → a j ≤ b j) → cq_cs p a q n ≤ cq_cs p b q n := by
  intro n
  induction n with
  | zero =>
    intro _
    exact Nat.le_refl _
  | succ n ih =>
    intro h
    show cq_cs p a q n + _ ≤ cq_cs p b q n + _
    have := ih (fun j h1 h2 h3 => h j h1 (by omega) h3)
    by_cases w : (!(n == 0) && (p n == q)) = true
    · rw [if_pos w, if_pos w]
      simp only [Bool.and_eq_true, Bool.not_eq_true', beq_eq_false_iff_ne, beq_iff_eq] at w
      have := h n w.1 (by omega) w.2
      omega
    · rw [if_neg w, if_neg w]
      omega
theorem cq_cs_lt {p a b : Nat → Nat} {q k : Nat} : ∀ {n}, (∀ j, j ≠ 0 → j < n → p j = q → a j ≤ b j) → k ≠ 0 → k < n → p k = q → a k < b k → cq_cs p a q n < cq_cs p b q n := by
  intro n
  induction n with
  | zero =>
    intro _ _ h
    omega
  | succ n ih =>
    intro h h0 hk hp hl
    show cq_cs p a q n + _ < cq_cs p b q n + _
    by_cases e : k = n
    · subst e
      have w : (!(k == 0) && (p k == q)) = true := by simp [h0, hp]
      have := cq_cs_mono (p := p) (a := a) (b := b) (q := q) (n := k) (fun j h1 h2 h3 => h j h1 (by omega) h3)
      rw [if_pos w, if_pos w]
      omega
    · have := ih (fun j h1 h2 h3 => h j h1 (by omega) h3) h0 (by omega) hp hl
      by_cases w : (!(n == 0) && (p n == q)) = true
      · rw [if_pos w, if_pos w]
        simp only [Bool.and_eq_true, Bool.not_eq_true', beq_eq_false_iff_ne, beq_iff_eq] at w
        have := h n w.1 (by omega) w.2
        omega
      · rw [if_neg w, if_neg w]
        omega
/-- an inner queue's usage is its children's -/
theorem cq_us_in {p cl : Nat → Nat} {lv : Nat → Bool} {n q : Nat} (hT : cq_T p n) (hq : cq_cc p n q ≠ 0) (hl : ∀ i, lv i = true → cl i < n ∧ cq_cc p n (cl i) = 0) : ∀ N, cq_cnt (fun i => lv i && cq_un p (cl i) q) N = cq_cs p (fun j => cq_cnt (fun i => lv i && cq_un p (cl i) j) N) q n := by
  intro N
  induction N with
  | zero =>
    show 0 = cq_cs p (fun _ => 0) q n
    have : ∀ n, cq_cs p (fun _ => 0) q n = 0 := by
      intro n
      induction n with
      | zero => rfl
      | succ n ih =>
        show cq_cs p (fun _ => 0) q n + _ = 0
        rw [ih]
        split <;> rfl
    exact (this n).symm
  | succ N ih =>
    show cq_cnt (fun i => lv i && cq_un p (cl i) q) N + (if (lv N && cq_un p (cl N) q) then 1 else 0) = cq_cs p (fun j => cq_cnt (fun i => lv i && cq_un p (cl i) j) N + (if (lv N && cq_un p (cl N) j) then 1 else 0)) q n
    rw [cq_cs_add, ih]
    congr 1
    cases w : lv N with
    | false =>
      have := cq_cs_ind p (fun _ => false) q n
      rw [cq_cnt_0 (fun i _ => Bool.and_false _)] at this
      exact this.symm
    | true =>
      obtain ⟨h1, h2⟩ := hl N w
      have hne : cl N ≠ q := fun e => hq (e ▸ h2)
      have e := cq_cs_ind p (fun j => cq_un p (cl N) j) q n
      show (if (true && cq_un p (cl N) q) then 1 else 0) = cq_cs p (fun j => if (true && cq_un p (cl N) j) then 1 else 0) q n
      simp only [Bool.true_and]
      rw [e]
      cases v : cq_un p (cl N) q with
      | true =>
        obtain ⟨j, a, b, c, d⟩ := cq_un_ch hT (cl N + 1) (cl N) (by omega) h1 v hne
        rw [cq_cnt_one (s := j) (fun i k hi hk fi fk => ?_) b (by simp [a, c, d])]
        · rfl
        · simp only [Bool.and_eq_true, Bool.not_eq_true', beq_eq_false_iff_ne, beq_iff_eq] at fi fk
          exact cq_un_one hT h1 fi.1.1 fk.1.1 hi hk fi.1.2 fk.1.2 fi.2 fk.2
      | false =>
        rw [cq_cnt_0]
        · rfl
        · intro i hi
          cases y : ((!(i == 0) && (p i == q)) && cq_un p (cl N) i) with
          | false => rfl
          | true =>
            simp only [Bool.and_eq_true, Bool.not_eq_true', beq_eq_false_iff_ne, beq_iff_eq] at y
            have := cq_un_tr hT y.1.1 (cl N + 1) (cl N) (by omega) h1 y.2
            rw [y.1.2, v] at this
            exact absurd this (by decide)
theorem cq_un_leaf {p : Nat → Nat} {n x q : Nat} (hT : cq_T p n) (hx : x < n) (hc : cq_cc p n q = 0) : cq_un p x q = (x == q) := by
  by_cases e : x = q
  · subst e
    rw [cq_un_self]
    simp
  · have : (x == q) = false := by simpa using e
    rw [this]
    cases w : cq_un p x q with
    | false => rfl
    | true =>
      obtain ⟨j, a, b, c, _⟩ := cq_un_ch hT (x + 1) x (by omega) hx w e
      exact absurd c (cq_cc_0 hc a b)
/-- a leaf's usage is its users' -/
theorem cq_us_leaf {p cl cu : Nat → Nat} {lv : Nat → Bool} {n q : Nat} (hT : cq_T p n) (hc : cq_cc p n q = 0) (hl : ∀ i, lv i = true → cl i < n ∧ cu i < 4) : ∀ N, cq_cnt (fun i => lv i && cq_un p (cl i) q) N = cq_cnt (fun i => lv i && (cl i * 4 + cu i == q * 4 + 0)) N + cq_cnt (fun i => lv i && (cl i * 4 + cu i == q * 4 + 1)) N + cq_cnt (fun i => lv i && (cl i * 4 + cu i == q * 4 + 2)) N + cq_cnt (fun i => lv i && (cl i * 4 + cu i == q * 4 + 3)) N := by
  intro N
  induction N with
  | zero => rfl
  | succ N ih =>
    simp only [cq_cnt_s]
    rw [ih]
    cases w : lv N with
    | false => simp
    | true =>
      obtain ⟨h1, h2⟩ := hl N w
      rw [cq_un_leaf hT h1 hc]
      simp only [Bool.true_and, beq_iff_eq]
      by_cases e : cl N = q
      · subst e
        rw [if_pos rfl]
        have : cu N = 0 ∨ cu N = 1 ∨ cu N = 2 ∨ cu N = 3 := by omega
        rcases this with h | h | h | h <;> rw [h] <;> simp <;> omega
      · rw [if_neg e, if_neg (by omega), if_neg (by omega), if_neg (by omega), if_neg (by omega)]
        omega
end
section
/-! what more holds of the class alone -/
theorem cq_un_trans {p : Nat → Nat} {n : Nat} (hT : cq_T p n) {b a : Nat} (h2 : cq_un p b a = true) : ∀ d x, x < d → x < n → cq_un p x b = true → cq_un p x a = true := by
  intro d
  induction d with
  | zero =>
    intro x h
    omega
  | succ d ih =>
    intro x hd hx h1
    by_cases e1 : x = b
    · subst e1
      exact h2
    · by_cases e : x = 0
      · subst e
        rw [cq_un_00] at h1
        have : 0 = b := by simpa using h1
        omega
      · have hp := hT x (by omega) hx
        rw [cq_un_ne hT e hx e1] at h1
        rw [cq_un_p hT e hx, ih (p x) (by omega) (by omega) h1]
        simp
/-- the static part: maxima above guarantees, the root's, the children's sums -/
def cq_KK (c n : Nat) (p g m : Nat → Nat) : Prop := (∀ q, q < n → g q ≤ m q) ∧ g 0 = c ∧ (∀ q, q < n → cq_cs p g q n ≤ g q)
/-- the moving part: no queue above its maximum, live slots below 64, their ids differ -/
def cq_L (n : Nat) (p m : Nat → Nat) (z : cq_Z) : Prop := (∀ q, q < n → cq_u p z q ≤ m q) ∧ (∀ i, cq_lv z i = true → i < 64) ∧ (∀ i j, cq_lv z i = true → cq_lv z j = true → cq_id z i = cq_id z j → i = j)
theorem cq_L_put {T B n : Nat} {p m : Nat → Nat} {z : cq_Z} (hD : cq_D T B n p z) (h : cq_L n p m z) {x y s : Nat} (hs : s < 64) (hl : cq_lv z s = false) (hr : ∀ q, q < n → cq_un p x q = true → cq_u p z q < m q) : cq_L n p m (cq_put z x y s) := by
  obtain ⟨h1, h2, h3⟩ := h
  refine ⟨fun q hq => ?_, fun i hi => ?_, fun i j hi hj e => ?_⟩
  · rw [cq_u_put p x y hs hl]
    have := h1 q hq
    by_cases w : cq_un p x q = true
    · have := hr q hq w
      rw [if_pos w]
      omega
    · rw [if_neg w]
      omega
  · have hi' : cq_ub (cq_lv z) s true i = true := hi
    by_cases w : i = s
    · omega
    · rw [cq_ub_n w] at hi'
      exact h2 i hi'
  · have hi' : cq_ub (cq_lv z) s true i = true := hi
    have hj' : cq_ub (cq_lv z) s true j = true := hj
    have e' : cq_up (cq_id z) s (cq_t z) i = cq_up (cq_id z) s (cq_t z) j := e
    by_cases w : i = s
    · by_cases w' : j = s
      · omega
      · subst w
        rw [cq_up_s, cq_up_n w'] at e'
        rw [cq_ub_n w'] at hj'
        have := (hD.2.2.2 j hj').2.2.2.1
        omega
    · by_cases w' : j = s
      · subst w'
        rw [cq_up_s, cq_up_n w] at e'
        rw [cq_ub_n w] at hi'
        have := (hD.2.2.2 i hi').2.2.2.1
        omega
      · rw [cq_up_n w, cq_up_n w'] at e'
        rw [cq_ub_n w] at hi'
        rw [cq_ub_n w'] at hj'
        exact h3 i j hi' hj' e'
theorem cq_u_rq {p : Nat → Nat} {z : cq_Z} {v : Nat} (hv : v < 64) (hl : cq_lv z v = true) (q : Nat) : cq_u p z q = cq_u p (cq_rq z v) q + (if cq_un p (cq_cl z v) q then 1 else 0) := cq_us_rm hv hl q
theorem cq_h_rq {z : cq_Z} {v : Nat} (hv : v < 64) (hl : cq_lv z v = true) (j : Nat) : cq_h z j = cq_h (cq_rq z v) j + (if cq_cl z v * 4 + cq_cu z v == j then 1 else 0) := cq_hs_rm hv hl j
theorem cq_L_rq {n : Nat} {p m : Nat → Nat} {z : cq_Z} (h : cq_L n p m z) {v : Nat} (hv : v < 64) (hl : cq_lv z v = true) : cq_L n p m (cq_rq z v) := by
  obtain ⟨h1, h2, h3⟩ := h
  have key : ∀ i, cq_lv (cq_rq z v) i = true → cq_lv z i = true := by
    intro i hi
    have hi' : cq_ub (cq_lv z) v false i = true := hi
    by_cases w : i = v
    · subst w
      exact hl
    · rw [cq_ub_n w] at hi'
      exact hi'
  refine ⟨fun q hq => ?_, fun i hi => h2 i (key i hi), fun i j hi hj e => h3 i j (key i hi) (key j hj) e⟩
  have := h1 q hq
  have := cq_u_rq (p := p) hv hl q
  omega
theorem cq_E_congr {r r' h h' : Nat → Nat} {l x : Nat} : ∀ {k}, (∀ j, j < k → r' (x * 4 + j) = r (x * 4 + j) ∧ h' (x * 4 + j) = h (x * 4 + j)) → cq_E r' h' l x k = cq_E r h l x k := by
  intro k
  induction k with
  | zero =>
    intro _
    rfl
  | succ k ih =>
    intro hh
    show cq_E r' h' l x k + _ = cq_E r h l x k + _
    rw [ih (fun j hj => hh j (by omega)), (hh k (by omega)).1, (hh k (by omega)).2]
theorem cq_e_rq {l : Nat} {z : cq_Z} {v x : Nat} (hv : v < 64) (hl : cq_lv z v = true) (hu : cq_cu z v < 4) (hx : x ≠ cq_cl z v) : cq_e l (cq_rq z v) x = cq_e l z x := by
  refine cq_E_congr fun j hj => ⟨?_, ?_⟩
  · show cq_up (cq_r z) (cq_cl z v * 4 + cq_cu z v) _ (x * 4 + j) = _
    rw [cq_up_n (by omega)]
  · have := cq_h_rq hv hl (x * 4 + j)
    rw [if_neg (by simp; omega)] at this
    omega
theorem cq_e_put {l : Nat} {z : cq_Z} {x y s w : Nat} (hs : s < 64) (hl : cq_lv z s = false) (hy : y < 4) (hx : w ≠ x) : cq_e l (cq_put z x y s) w = cq_e l z w := by
  refine cq_E_congr fun j hj => ⟨?_, ?_⟩
  · show cq_up (cq_r z) (x * 4 + y) _ (w * 4 + j) = _
    rw [cq_up_n (by omega)]
  · have := cq_h_put x y hs hl (w * 4 + j)
    rw [if_neg (by simp; omega)] at this
    exact this
/-- the fill keeps it, and ends with the root closed -/
theorem cq_nx_L {T B c l n : Nat} {p g m : Nat → Nat} {z : cq_Z} (hJ : cq_J c l n p g m) (hD : cq_D T B n p z) (h : cq_L n p m z) (ho : cq_on l n p m z 0 = true) : cq_L n p m (cq_nx l n p g m z) ∧ cq_t (cq_nx l n p g m z) = cq_t z + 1 := by
  obtain ⟨hb, _⟩ := cq_nx_ok hJ hD ho
  obtain ⟨⟨h1, h2, h3, h4, h5⟩, hT, hg, hm, h0⟩ := hJ
  obtain ⟨a, b⟩ := cq_lf_ok (g := g) hT 16 0 (by omega) (by omega) ho
  obtain ⟨y, s, hy, hs, eq⟩ := cq_gr_yes hb
  obtain ⟨s1, s2⟩ := cq_sl_lt hs
  unfold cq_nx
  rw [eq]
  exact ⟨cq_L_put hD h s1 s2 (fun q hq w => cq_le_room (l := l) hT _ _ (Nat.lt_succ_self _) a (cq_el_cc b).2.2 q w), rfl⟩
theorem cq_fz_L {B c l n : Nat} {p g m : Nat → Nat} (hJ : cq_J c l n p g m) : ∀ d T z, cq_D T B n p z → cq_L n p m z → cq_L n p m (cq_fz l n p g m d z) ∧ cq_t (cq_fz l n p g m d z) = cq_t z + cq_fn l n p g m d z ∧ cq_u p (cq_fz l n p g m d z) 0 = cq_u p z 0 + cq_fn l n p g m d z := by
  intro d
  induction d with
  | zero =>
    intro T z _ h
    exact ⟨h, rfl, rfl⟩
  | succ d ih =>
    intro T z hD h
    unfold cq_fz cq_fn
    by_cases ho : cq_on l n p m z 0 = true
    · rw [if_pos ho, if_pos ho]
      obtain ⟨a, b⟩ := cq_nx_L hJ hD h ho
      obtain ⟨_, b'⟩ := cq_nx_ok hJ hD ho
      obtain ⟨e1, e2, e3⟩ := ih (T + 1) _ (cq_nx_D hJ.2.1 hJ.1.2.2.2.1 hJ.1.2.2.2.2 hD ho) a
      refine ⟨e1, ?_, ?_⟩
      · rw [e2, b]
        omega
      · rw [e3, b']
        omega
    · rw [if_neg ho, if_neg ho]
      exact ⟨h, rfl, rfl⟩
theorem cq_fz_off {B c l n : Nat} {p g m : Nat → Nat} (hJ : cq_J c l n p g m) : ∀ d T z, cq_D T B n p z → c ≤ cq_u p z 0 + d → cq_on l n p m (cq_fz l n p g m d z) 0 = false := by
  intro d
  induction d with
  | zero =>
    intro T z _ h
    cases ho : cq_on l n p m z 0 with
    | false => exact ho
    | true =>
      have := cq_on_0 hJ.2.1 ho
      have := hJ.2.2.2.2
      omega
  | succ d ih =>
    intro T z hD h
    unfold cq_fz
    by_cases ho : cq_on l n p m z 0 = true
    · rw [if_pos ho]
      obtain ⟨_, b'⟩ := cq_nx_ok hJ hD ho
      exact ih (T + 1) _ (cq_nx_D hJ.2.1 hJ.1.2.2.2.1 hJ.1.2.2.2.2 hD ho) (by omega)
    · rw [if_neg ho]
      simpa using ho
/-- who wants units is held by a full queue -/
def cq_N (l n : Nat) (p m : Nat → Nat) (z : cq_Z) : Prop := ∀ x, x < n → cq_cc p n x = 0 → 0 < cq_e l z x → ∃ a, cq_un p x a = true ∧ cq_u p z a = m a
theorem cq_ex_iff {p : Nat → Nat} {n : Nat} (hT : cq_T p n) {s : Nat → Bool} : ∀ d x, x < d → x < n → cq_ex p s x = true → ∃ a, cq_un p x a = true ∧ s a = true := by
  intro d
  induction d with
  | zero =>
    intro x h
    omega
  | succ d ih =>
    intro x hd hx h
    by_cases w : s x = true
    · exact ⟨x, cq_un_self p x, w⟩
    · by_cases e : x = 0
      · subst e
        rw [cq_ex_0] at h
        exact absurd h w
      · have hp := hT x (by omega) hx
        rw [cq_ex_p hT s e hx] at h
        have w' : s x = false := by simpa using w
        rw [w', Bool.false_or] at h
        obtain ⟨a, h1, h2⟩ := ih (p x) (by omega) (by omega) h
        refine ⟨a, ?_, h2⟩
        rw [cq_un_p hT e hx, h1]
        simp
theorem cq_N_0 {l n : Nat} {p m : Nat → Nat} {z : cq_Z} (hT : cq_T p n) (hL : cq_L n p m z) (h0 : cq_on l n p m z 0 = false) : cq_N l n p m z := by
  intro x hx hc he
  have hr : cq_rm p m (cq_u p z) x = false := by
    cases w : cq_rm p m (cq_u p z) x with
    | false => rfl
    | true =>
      have : cq_on l n p m z 0 = true := cq_any_iff.mpr ⟨x, hx, by
        rw [cq_un_rt hT (x + 1) x (by omega) hx, Bool.true_and]
        unfold cq_el
        rw [w]
        have he' : 0 < cq_E (cq_r z) (cq_h z) l x 4 := he
        simp [hc, he']⟩
      rw [h0] at this
      exact absurd this (by decide)
  unfold cq_rm at hr
  have hr' : cq_ex p (fun y => decide (m y ≤ cq_u p z y)) x = true := by simpa using hr
  obtain ⟨a, h1, h2⟩ := cq_ex_iff hT (x + 1) x (by omega) hx hr'
  have ha := cq_un_le hT (x + 1) x a (by omega) hx h1
  have := hL.1 a (by omega)
  have h2' : m a ≤ cq_u p z a := by simpa using h2
  exact ⟨a, h1, by omega⟩
/-- what the search for a full ancestor finds -/
theorem cq_fa_some {n : Nat} {p m : Nat → Nat} {z : cq_Z} (hT : cq_T p n) : ∀ f x a, x < n → cq_fa p m z f x = some a → cq_un p x a = true ∧ cq_u p z a = m a ∧ ∀ q, cq_un p x q = true → cq_u p z q = m q → cq_un p a q = true := by
  intro f
  induction f with
  | zero =>
    intro x a _ h
    exact absurd h (by simp [cq_fa])
  | succ f ih =>
    intro x a hx h
    unfold cq_fa at h
    by_cases e : cq_u p z x = m x
    · rw [if_pos e] at h
      cases h
      exact ⟨cq_un_self p x, e, fun q hq _ => hq⟩
    · rw [if_neg e] at h
      by_cases e0 : x = 0
      · rw [if_pos e0] at h
        exact absurd h (by simp)
      · rw [if_neg e0] at h
        have hp := hT x (by omega) hx
        obtain ⟨h1, h2, h3⟩ := ih (p x) a (by omega) h
        refine ⟨?_, h2, fun q hq hf => ?_⟩
        · rw [cq_un_p hT e0 hx, h1]
          simp
        · by_cases w : x = q
          · subst w
            exact absurd hf e
          · rw [cq_un_ne hT e0 hx w] at hq
            exact h3 q hq hf
theorem cq_fa_ex {n : Nat} {p m : Nat → Nat} {z : cq_Z} (hT : cq_T p n) : ∀ f x q, x < f → x < n → cq_un p x q = true → cq_u p z q = m q → ∃ a, cq_fa p m z f x = some a := by
  intro f
  induction f with
  | zero =>
    intro x q h
    omega
  | succ f ih =>
    intro x q hf hx hq hm
    unfold cq_fa
    by_cases e : cq_u p z x = m x
    · exact ⟨x, if_pos e⟩
    · rw [if_neg e]
      have w : x ≠ q := fun w => e (w ▸ hm)
      by_cases e0 : x = 0
      · subst e0
        rw [cq_un_00] at hq
        exact absurd (by simpa using hq) w
      · rw [if_neg e0]
        have hp := hT x (by omega) hx
        rw [cq_un_ne hT e0 hx w] at hq
        exact ih (p x) q (by omega) (by omega) hq hm
/-- if no leaf under q is above its guarantee, q isn't; and if one is below, q is -/
theorem cq_low {n : Nat} {p g m : Nat → Nat} {c : Nat} {z : cq_Z} {T B : Nat} (hT : cq_T p n) (hK : cq_KK c n p g m) (hD : cq_D T B n p z) : ∀ d q, n ≤ q + d → q < n → (∀ w, w < n → cq_cc p n w = 0 → cq_un p w q = true → cq_u p z w ≤ g w) → cq_u p z q ≤ g q ∧ ((∃ s, s < n ∧ cq_cc p n s = 0 ∧ cq_un p s q = true ∧ cq_u p z s < g s) → cq_u p z q < g q) := by
  intro d
  induction d with
  | zero =>
    intro q h1 h2
    omega
  | succ d ih =>
    intro q h1 h2 hw
    by_cases hc : cq_cc p n q = 0
    · refine ⟨hw q h2 hc (cq_un_self p q), ?_⟩
      rintro ⟨s, s1, s2, s3, s4⟩
      rw [cq_un_leaf hT s1 hc] at s3
      have : s = q := by simpa using s3
      subst this
      exact s4
    · have eu : cq_u p z q = cq_cs p (cq_u p z) q n := cq_us_in hT hc (fun i hi => ⟨(hD.2.2.2 i hi).1, (hD.2.2.2 i hi).2.2.2.2⟩) 64
      have hs := hK.2.2 q h2
      have hch : ∀ j, j ≠ 0 → j < n → p j = q → cq_u p z j ≤ g j ∧ ((∃ s, s < n ∧ cq_cc p n s = 0 ∧ cq_un p s j = true ∧ cq_u p z s < g s) → cq_u p z j < g j) := by
        intro j j0 j1 j2
        have := hT j (by omega) j1
        refine ih j (by omega) j1 fun w w1 w2 w3 => hw w w1 w2 ?_
        have := cq_un_tr hT j0 (w + 1) w (by omega) w1 w3
        rw [j2] at this
        exact this
      refine ⟨?_, ?_⟩
      · have := cq_cs_mono (p := p) (a := cq_u p z) (b := g) (q := q) (n := n) (fun j a b c => (hch j a b c).1)
        omega
      · rintro ⟨s, s1, s2, s3, s4⟩
        have hne : s ≠ q := fun e => hc (e ▸ s2)
        obtain ⟨j, a, b, c, e⟩ := cq_un_ch hT (s + 1) s (by omega) s1 s3 hne
        have := cq_cs_lt (p := p) (a := cq_u p z) (b := g) (q := q) (k := j) (n := n) (fun j a b c => (hch j a b c).1) a b c ((hch j a b c).2 ⟨s, s1, s2, e, s4⟩)
        omega
/-- a starved leaf finds its ancestor and its victim -/
theorem cq_rd_ex {T B c l n : Nat} {p g m : Nat → Nat} {z : cq_Z} (hJ : cq_J c l n p g m) (hK : cq_KK c n p g m) (hD : cq_D T B n p z) (hL : cq_L n p m z) (hN : cq_N l n p m z) {s : Nat} (hs : cq_sv l n p g z = some s) : ∃ z', cq_rd l n p g m z = some z' := by
  obtain ⟨⟨h1, h2, h3, h4, h5⟩, hT, hg, hm, h0⟩ := hJ
  obtain ⟨s1, s2, s3, s4⟩ := cq_sv_ok hs
  obtain ⟨a, ha, hf⟩ := hN s s1 s2 s4
  have hgm := hK.1 s s1
  have hne : s ≠ a := by
    intro e
    subst e
    omega
  have hs0 : s ≠ 0 := by
    intro e
    subst e
    rw [cq_un_00] at ha
    exact hne (by simpa using ha)
  have hp := hT s (by omega) s1
  rw [cq_un_ne hT hs0 s1 hne] at ha
  obtain ⟨b, hb⟩ := cq_fa_ex (m := m) (z := z) hT 16 (p s) a (by omega) (by omega) ha hf
  obtain ⟨b1, b2, _⟩ := cq_fa_some hT 16 (p s) b (by omega) hb
  have hbn := cq_un_le hT (p s + 1) (p s) b (by omega) (by omega) b1
  have b3 : cq_un p s b = true := by
    rw [cq_un_p hT hs0 s1, b1]
    simp
  have ef : cq_fs p m z s = some b := by
    unfold cq_fs
    rw [if_neg hs0]
    exact hb
  cases ev : cq_vi p g z b s 64 with
  | some v =>
    refine ⟨cq_gr l s (cq_rq z v), ?_⟩
    unfold cq_rd
    rw [hs]
    dsimp only
    rw [ef]
    dsimp only
    rw [ev]
  | none =>
    exfalso
    have hno := cq_fo_none ev
    have hall : ∀ w, w < n → cq_cc p n w = 0 → cq_un p w b = true → cq_u p z w ≤ g w := by
      intro w w1 w2 w3
      by_cases e : w = s
      · subst e
        omega
      · apply Nat.le_of_not_lt
        intro hgt
        obtain ⟨i, i1, i2⟩ := cq_cnt_ex (f := fun i => cq_lv z i && cq_un p (cq_cl z i) w) (n := 64) (show 0 < cq_u p z w by omega)
        rw [Bool.and_eq_true] at i2
        have hc := (hD.2.2.2 i i2.1).1
        rw [cq_un_leaf hT hc w2] at i2
        have ec : cq_cl z i = w := by simpa using i2.2
        have := hno i i1
        unfold cq_bw at this
        rw [i2.1, ec, w3] at this
        simp [e] at this
        omega
    have := (cq_low hT hK hD n b (by omega) (by omega) hall).2 ⟨s, s1, s2, b3, s3⟩
    have := hK.1 b (by omega)
    omega
end
section
/-! a round, and the end of the rounds -/
theorem cq_rd_ok {T B c l n : Nat} {p g m : Nat → Nat} {z z' : cq_Z} (hJ : cq_J c l n p g m) (hK : cq_KK c n p g m) (hD : cq_D T B n p z) (hL : cq_L n p m z) (hN : cq_N l n p m z) (e : cq_rd l n p g m z = some z') : cq_L n p m z' ∧ cq_N l n p m z' ∧ cq_t z' = cq_t z + 1 ∧ ∃ s w, s < n ∧ w < n ∧ cq_cc p n s = 0 ∧ cq_cc p n w = 0 ∧ w ≠ s ∧ cq_u p z s < g s ∧ g w < cq_u p z w ∧ ∀ q, cq_u p z' q + (if cq_un p w q then 1 else 0) = cq_u p z q + (if cq_un p s q then 1 else 0) := by
  obtain ⟨⟨h1, h2, h3, h4, h5⟩, hT, hg, hm, h0⟩ := hJ
  obtain ⟨s, a, v, es, ea, ev, rfl⟩ := cq_rd_some e
  obtain ⟨s1, s2, s3, s4⟩ := cq_sv_ok es
  obtain ⟨v1, v2, v3, v4, v5⟩ := cq_vi_ok ev
  obtain ⟨w1, w2, w3, w4, w5⟩ := hD.2.2.2 v v2
  have hs0 : s ≠ 0 := by
    intro e0
    unfold cq_fs at ea
    rw [if_pos e0] at ea
    exact absurd ea (by simp)
  have hp := hT s (by omega) s1
  have ea' : cq_fa p m z 16 (p s) = some a := by
    unfold cq_fs at ea
    rw [if_neg hs0] at ea
    exact ea
  obtain ⟨a1, a2, a3⟩ := cq_fa_some hT 16 (p s) a (by omega) ea'
  have a4 : cq_un p s a = true := by
    rw [cq_un_p hT hs0 s1, a1]
    simp
  have ha := cq_un_le hT (s + 1) s a (by omega) s1 a4
  have hur := cq_u_rq (p := p) v1 v2
  have hDr := cq_D_rq hD v2
  have her : cq_e l (cq_rq z v) s = cq_e l z s := cq_e_rq v1 v2 w2 (fun e => v3 e.symm)
  have hu0 : cq_u p (cq_rq z v) 0 < 64 := by
    have := hur 0
    rw [cq_un_rt hT _ _ (Nat.lt_succ_self _) w1] at this
    have := cq_us_le p (cq_cl z) (cq_lv z) 0
    have : cq_u p z 0 ≤ 64 := this
    simp at *
    omega
  have hb := cq_gb_ok (l := l) (x := s) hT hDr (by omega) hu0
  obtain ⟨y, k, hy, hk, eq⟩ := cq_gr_yes hb
  obtain ⟨k1, k2⟩ := cq_sl_lt hk
  obtain ⟨y1, _, _⟩ := cq_us4_lt hy
  rw [eq]
  have hup := cq_u_put p s y k1 k2
  have hu : ∀ q, cq_u p (cq_put (cq_rq z v) s y k) q + (if cq_un p (cq_cl z v) q then 1 else 0) = cq_u p z q + (if cq_un p s q then 1 else 0) := by
    intro q
    have x1 := hur q
    have x2 := hup q
    omega
  refine ⟨?_, ?_, rfl, s, cq_cl z v, s1, w1, s2, w5, v3, s3, v4, hu⟩
  · refine cq_L_put hDr (cq_L_rq hL v1 v2) k1 k2 fun q hq hsq => ?_
    have x1 := hur q
    have x2 := hL.1 q hq
    by_cases hw : cq_un p (cq_cl z v) q = true
    · rw [if_pos hw] at x1
      omega
    · rw [if_neg hw] at x1
      have hne : cq_u p z q ≠ m q := by
        intro ef
        by_cases eq0 : s = q
        · subst eq0
          have := hK.1 s s1
          omega
        · rw [cq_un_ne hT hs0 s1 eq0] at hsq
          exact hw (cq_un_trans hT (a3 q hsq ef) _ _ (Nat.lt_succ_self _) w1 v5)
      omega
  · intro x hx hc hex
    by_cases hxa : cq_un p x a = true
    · refine ⟨a, hxa, ?_⟩
      have := hu a
      rw [if_pos v5, if_pos a4] at this
      omega
    · have hxs : x ≠ s := fun e => hxa (e ▸ a4)
      have hxw : x ≠ cq_cl z v := fun e => hxa (e ▸ v5)
      rw [cq_e_put k1 k2 y1 hxs, cq_e_rq v1 v2 w2 hxw] at hex
      obtain ⟨b, b1, b2⟩ := hN x hx hc hex
      refine ⟨b, b1, ?_⟩
      have hnb : ¬ cq_un p b a = true := fun hba => hxa (cq_un_trans hT hba _ _ (Nat.lt_succ_self _) hx b1)
      have key : ∀ k, k < n → cq_un p k a = true → cq_un p k b = true → cq_un p a b = true := by
        intro k hk hka hkb
        rcases cq_un_cmp hT _ _ (Nat.lt_succ_self _) hk hka hkb with h | h
        · exact h
        · exact absurd h hnb
      have hub := hu b
      by_cases hab : cq_un p a b = true
      · rw [if_pos (cq_un_trans hT hab _ _ (Nat.lt_succ_self _) w1 v5), if_pos (cq_un_trans hT hab _ _ (Nat.lt_succ_self _) s1 a4)] at hub
        omega
      · rw [if_neg (fun h => hab (key _ w1 v5 h)), if_neg (fun h => hab (key _ s1 a4 h))] at hub
        omega
def cq_dn (p g : Nat → Nat) (n : Nat) (z : cq_Z) : Nat → Nat
  | 0 => 0
  | q + 1 => cq_dn p g n z q + (if cq_cc p n q = 0 then g q - cq_u p z q else 0)
theorem cq_dn_rd {n : Nat} {p g : Nat → Nat} {z z' : cq_Z} (hT : cq_T p n) {s w : Nat} (hs : s < n) (hw : w < n) (hc : cq_cc p n s = 0) (hne : w ≠ s) (h1 : cq_u p z s < g s) (h2 : g w < cq_u p z w) (hu : ∀ q, cq_u p z' q + (if cq_un p w q then 1 else 0) = cq_u p z q + (if cq_un p s q then 1 else 0)) : ∀ N, N ≤ n → cq_dn p g n z' N + (if s < N then 1 else 0) = cq_dn p g n z N := by
  intro N
  induction N with
  | zero =>
    intro _
    rfl
  | succ N ih =>
    intro hN
    have ih' := ih (by omega)
    show cq_dn p g n z' N + _ + _ = cq_dn p g n z N + _
    by_cases e : cq_cc p n N = 0
    · rw [if_pos e, if_pos e]
      have hq := hu N
      rw [cq_un_leaf hT hw e, cq_un_leaf hT hs e] at hq
      by_cases es : s = N
      · subst es
        rw [if_neg (by simpa using hne), if_pos (by simp)] at hq
        rw [if_neg (by omega)] at ih'
        rw [if_pos (by omega)]
        omega
      · rw [if_neg (show ¬ (s == N) = true by simpa using es)] at hq
        have e3 : (s < N + 1) ↔ (s < N) := by omega
        simp only [e3]
        by_cases ew : w = N
        · subst ew
          rw [if_pos (by simp)] at hq
          omega
        · rw [if_neg (by simpa using ew)] at hq
          omega
    · rw [if_neg e, if_neg e]
      have es : s ≠ N := fun es => e (es ▸ hc)
      have e3 : (s < N + 1) ↔ (s < N) := by omega
      simp only [e3]
      omega
theorem cq_dn_st {n : Nat} {p g : Nat → Nat} {z : cq_Z} : ∀ {N}, cq_dn p g n z N = 0 → ∀ q, q < N → cq_cc p n q = 0 → g q ≤ cq_u p z q := by
  intro N
  induction N with
  | zero =>
    intro _ q h
    omega
  | succ N ih =>
    intro h q hq hc
    have h' : cq_dn p g n z N + (if cq_cc p n N = 0 then g N - cq_u p z N else 0) = 0 := h
    by_cases e : q = N
    · subst e
      rw [if_pos hc] at h'
      omega
    · exact ih (by omega) q (by omega) hc
def cq_sm (f : Nat → Nat) : Nat → Nat
  | 0 => 0
  | q + 1 => cq_sm f q + f q
theorem cq_sm_add (f f' : Nat → Nat) : ∀ n, cq_sm (fun q => f q + f' q) n = cq_sm f n + cq_sm f' n := by
  intro n
  induction n with
  | zero => rfl
  | succ n ih =>
    show cq_sm (fun q => f q + f' q) n + (f n + f' n) = cq_sm f n + f n + (cq_sm f' n + f' n)
    omega
theorem cq_sm_mono {f f' : Nat → Nat} : ∀ {n}, (∀ q, q < n → f q ≤ f' q) → cq_sm f n ≤ cq_sm f' n := by
  intro n
  induction n with
  | zero =>
    intro _
    exact Nat.le_refl _
  | succ n ih =>
    intro h
    show cq_sm f n + f n ≤ cq_sm f' n + f' n
    have := ih (fun q hq => h q (by omega))
    have := h n (by omega)
    omega
theorem cq_sm_0 : ∀ n, cq_sm (fun _ => 0) n = 0 := by
  intro n
  induction n with
  | zero => rfl
  | succ n ih => exact ih
theorem cq_sm_one {a x : Nat} : ∀ {n}, a < n → cq_sm (fun q => if a = q then x else 0) n = x := by
  intro n
  induction n with
  | zero =>
    intro h
    omega
  | succ n ih =>
    intro h
    show cq_sm (fun q => if a = q then x else 0) n + (if a = n then x else 0) = x
    by_cases e : a = n
    · subst e
      rw [if_pos rfl]
      have : ∀ k, k ≤ a → cq_sm (fun q => if a = q then x else 0) k = 0 := by
        intro k
        induction k with
        | zero =>
          intro _
          rfl
        | succ k ihk =>
          intro hk
          show cq_sm (fun q => if a = q then x else 0) k + (if a = k then x else 0) = 0
          rw [ihk (by omega), if_neg (by omega)]
      rw [this a (Nat.le_refl _)]
      omega
    · rw [ih (by omega), if_neg e, Nat.add_zero]
theorem cq_cs_all {p g : Nat → Nat} {n : Nat} (hT : cq_T p n) : ∀ M, M ≤ n → cq_sm (fun q => cq_cs p g q M) n = cq_sm (fun j => if j = 0 then 0 else g j) M := by
  intro M
  induction M with
  | zero =>
    intro _
    exact cq_sm_0 n
  | succ M ih =>
    intro hM
    show cq_sm (fun q => cq_cs p g q M + (if !(M == 0) && (p M == q) then g M else 0)) n = cq_sm (fun j => if j = 0 then 0 else g j) M + (if M = 0 then 0 else g M)
    rw [cq_sm_add, ih (by omega)]
    by_cases e : M = 0
    · subst e
      rw [if_pos rfl]
      have : cq_sm (fun q => if !((0 : Nat) == 0) && (p 0 == q) then g 0 else 0) n = cq_sm (fun _ => 0) n := by
        congr 1
      rw [this, cq_sm_0]
    · have := hT M (by omega) (by omega)
      rw [if_neg e]
      have e2 : (fun q => if !(M == 0) && (p M == q) then g M else 0) = fun q => if p M = q then g M else 0 := by
        funext q
        simp [e]
      rw [e2, cq_sm_one (by omega)]
theorem cq_dn_le {c n : Nat} {p g m : Nat → Nat} (hT : cq_T p n) (h1 : 1 ≤ n) (hK : cq_KK c n p g m) (z : cq_Z) : cq_dn p g n z n ≤ c := by
  have hd : ∀ N, N ≤ n → cq_dn p g n z N + cq_sm (fun q => cq_cs p g q n) N ≤ cq_sm g N := by
    intro N
    induction N with
    | zero =>
      intro _
      exact Nat.le_refl _
    | succ N ih =>
      intro hN
      have := ih (by omega)
      have hs := hK.2.2 N (by omega)
      show cq_dn p g n z N + (if cq_cc p n N = 0 then g N - cq_u p z N else 0) + (cq_sm (fun q => cq_cs p g q n) N + cq_cs p g N n) ≤ cq_sm g N + g N
      by_cases e : cq_cc p n N = 0
      · have e0 : ∀ k, k ≤ n → cq_cs p g N k = 0 := by
          intro k
          induction k with
          | zero =>
            intro _
            rfl
          | succ k ihk =>
            intro hk
            show cq_cs p g N k + _ = 0
            rw [ihk (by omega), if_neg]
            simp only [Bool.and_eq_true, Bool.not_eq_true', beq_eq_false_iff_ne, beq_iff_eq]
            rintro ⟨x1, x2⟩
            exact cq_cc_0 e x1 (by omega) x2
        rw [e0 n (Nat.le_refl _), if_pos e]
        omega
      · rw [if_neg e]
        omega
  have h2 := hd n (Nat.le_refl _)
  rw [cq_cs_all hT n (Nat.le_refl _)] at h2
  have h3 : ∀ N, 1 ≤ N → cq_sm g N = cq_sm (fun j => if j = 0 then 0 else g j) N + g 0 := by
    intro N
    induction N with
    | zero =>
      intro h
      omega
    | succ N ih =>
      intro _
      show cq_sm g N + g N = cq_sm (fun j => if j = 0 then 0 else g j) N + (if N = 0 then 0 else g N) + g 0
      by_cases e : N = 0
      · subst e
        rw [if_pos rfl]
        rfl
      · rw [if_neg e, ih (by omega)]
        omega
  have := h3 n h1
  have := hK.2.1
  omega
theorem cq_pz_ok {c l n : Nat} {p g m : Nat → Nat} (hJ : cq_J c l n p g m) (hK : cq_KK c n p g m) : ∀ d T B z, cq_D T B n p z → cq_L n p m z → cq_N l n p m z → cq_dn p g n z n ≤ d → cq_L n p m (cq_pz l n p g m d z) ∧ cq_sv l n p g (cq_pz l n p g m d z) = none ∧ cq_t (cq_pz l n p g m d z) = cq_t z + cq_pn l n p g m d z ∧ cq_u p (cq_pz l n p g m d z) 0 = cq_u p z 0 := by
  intro d
  induction d with
  | zero =>
    intro T B z hD hL hN hd
    refine ⟨hL, ?_, rfl, rfl⟩
    show cq_sv l n p g z = none
    cases e : cq_sv l n p g z with
    | none => rfl
    | some s =>
      obtain ⟨s1, s2, s3, _⟩ := cq_sv_ok e
      have := cq_dn_st (Nat.le_zero.mp hd) s s1 s2
      omega
  | succ d ih =>
    intro T B z hD hL hN hd
    unfold cq_pz cq_pn
    cases e : cq_rd l n p g m z with
    | none =>
      refine ⟨hL, ?_, rfl, rfl⟩
      show cq_sv l n p g z = none
      cases es : cq_sv l n p g z with
      | none => rfl
      | some s =>
        obtain ⟨z', hz⟩ := cq_rd_ex hJ hK hD hL hN es
        rw [e] at hz
        exact absurd hz (by simp)
    | some z' =>
      obtain ⟨x1, x2, x3, s, w, s1, w1, s2, w2, hne, hs, hw, hu⟩ := cq_rd_ok hJ hK hD hL hN e
      have hdn := cq_dn_rd hJ.2.1 s1 w1 s2 hne hs hw hu n (Nat.le_refl _)
      rw [if_pos s1] at hdn
      obtain ⟨y1, y2, y3, y4⟩ := ih (T + 1) (B + 1) z' (cq_rd_D hD e) x1 x2 (by omega)
      refine ⟨y1, y2, ?_, ?_⟩
      · show cq_t (cq_pz l n p g m d z') = cq_t z + (cq_pn l n p g m d z' + 1)
        rw [y3, x3]
        omega
      · show cq_u p (cq_pz l n p g m d z') 0 = cq_u p z 0
        rw [y4]
        have h0 := hu 0
        rw [cq_un_rt hJ.2.1 _ _ (Nat.lt_succ_self _) w1, cq_un_rt hJ.2.1 _ _ (Nat.lt_succ_self _) s1] at h0
        simpa using h0
/-! ids and slots -/
def cq_iq (z : cq_Z) (q d : Nat) : Bool := match cq_fnd (cq_at z d) 0 64 with
  | none => false
  | some s => cq_cl z s == q
theorem cq_ids {z : cq_Z} {q K : Nat} (hd : ∀ i j, cq_lv z i = true → cq_lv z j = true → cq_id z i = cq_id z j → i = j) (hK : ∀ i, cq_lv z i = true → cq_id z i < K) : ∀ N, cq_cnt (fun d => cq_any (fun i => cq_at z d i && (cq_cl z i == q)) N) K = cq_cnt (fun i => cq_lv z i && (cq_cl z i == q)) N := by
  intro N
  induction N with
  | zero => exact cq_cnt_0 (fun _ _ => rfl)
  | succ N ih =>
    rw [cq_cnt_s, ← ih]
    cases w : (cq_lv z N && (cq_cl z N == q)) with
    | false =>
      rw [if_neg (by decide)]
      refine cq_cnt_congr fun d _ => ?_
      show (cq_any _ N || (cq_at z d N && (cq_cl z N == q))) = _
      unfold cq_at
      cases w1 : cq_lv z N with
      | false => simp
      | true =>
        rw [w1, Bool.true_and] at w
        rw [w, Bool.and_false, Bool.or_false]
    | true =>
      rw [Bool.and_eq_true] at w
      rw [if_pos rfl]
      have := cq_cnt_set (f := fun d => cq_any (fun i => cq_at z d i && (cq_cl z i == q)) N) (f' := fun d => cq_any (fun i => cq_at z d i && (cq_cl z i == q)) (N + 1)) (s := cq_id z N) (n := K) (fun d hne => by
        show (cq_any _ N || (cq_at z d N && (cq_cl z N == q))) = _
        have e : (cq_id z N == d) = false := by simpa using fun h => hne h.symm
        unfold cq_at
        rw [e, Bool.and_false, Bool.false_and, Bool.or_false]) (by
        refine cq_any_f fun i hi => ?_
        unfold cq_at
        cases w1 : cq_lv z i with
        | false => rfl
        | true =>
          have e : (cq_id z i == cq_id z N) = false := by
            simp only [beq_eq_false_iff_ne, ne_eq]
            intro h
            have := hd i N w1 w.1 h
            omega
          rw [e]
          rfl) (hK N w.1)
      rw [this]
      have e : cq_any (fun i => cq_at z (cq_id z N) i && (cq_cl z i == q)) (N + 1) = true := cq_any_iff.mpr ⟨N, by omega, by
        unfold cq_at
        rw [w.1, w.2]
        simp⟩
      show _ + (if cq_any (fun i => cq_at z (cq_id z N) i && (cq_cl z i == q)) (N + 1) then 1 else 0) = _
      rw [e]
      rfl
theorem cq_iq_any {z : cq_Z} (hd : ∀ i j, cq_lv z i = true → cq_lv z j = true → cq_id z i = cq_id z j → i = j) (q d : Nat) : cq_iq z q d = cq_any (fun i => cq_at z d i && (cq_cl z i == q)) 64 := by
  unfold cq_iq
  cases e : cq_fnd (cq_at z d) 0 64 with
  | none =>
    symm
    refine cq_any_f fun i hi => ?_
    rw [cq_fnd_none e i (by omega) (by omega)]
    rfl
  | some s =>
    obtain ⟨a, _, b⟩ := cq_fnd_some e
    have a' := a
    unfold cq_at at a'
    simp only [Bool.and_eq_true, beq_iff_eq] at a'
    dsimp only
    cases w : (cq_cl z s == q) with
    | true => exact (cq_any_iff.mpr ⟨s, by omega, by rw [a, w]; rfl⟩).symm
    | false =>
      symm
      refine cq_any_f fun i hi => ?_
      cases y : cq_at z d i with
      | false => rfl
      | true =>
        unfold cq_at at y
        simp only [Bool.and_eq_true, beq_iff_eq] at y
        have := hd i s y.1 a'.1 (y.2.trans a'.2.symm)
        subst this
        rw [w]
        rfl
end
section
/-! the class's public methods, each against the pure state -/
def cq_In (b c l n : Nat) (p g m : Nat → Nat) (z : cq_Z) : Prop := cq_J c l n p g m ∧ cq_D (1 + b) b n p z ∧ cq_L n p m z ∧ cq_KK c n p g m
theorem cq_In_up {b b' c l n : Nat} {p g m : Nat → Nat} {z : cq_Z} (h : cq_In b c l n p g m z) (hb : b ≤ b') : cq_In b' c l n p g m z :=
  ⟨h.1, cq_D_up h.2.1 (by omega) hb, h.2.2.1, h.2.2.2⟩
theorem cq_cs_c2 {p p' g g' : Nat → Nat} {q : Nat} : ∀ {n}, (∀ i, i < n → p' i = p i ∧ g' i = g i) → cq_cs p' g' q n = cq_cs p g q n := by
  intro n
  induction n with
  | zero =>
    intro _
    rfl
  | succ n ih =>
    intro h
    rw [cq_cs_s, cq_cs_s, ih (fun i hi => h i (by omega)), (h n (by omega)).1, (h n (by omega)).2]
theorem cq_ck_c2 {p g g' : Nat → Nat} {q s : Nat} : ∀ {n}, (∀ i, i ≠ s → g' i = g i) → cq_ck p g' q s n = cq_ck p g q s n := by
  intro n h
  induction n with
  | zero => rfl
  | succ n ih =>
    show cq_ck p g' q s n + _ = cq_ck p g q s n + _
    rw [ih]
    by_cases e : n = s
    · subst e
      rw [if_neg (by simp), if_neg (by simp)]
    · rw [h n e]
section
variable {b c l n : Nat} {p g m : Nat → Nat} {z : cq_Z} {op : Nat → Int32}
theorem cq_KK_new (hT : cq_T p n) (h1 : 1 ≤ n) (hK : cq_KK c n p g m) {j x y : Nat} (hj : j < n) (hxy : x ≤ y) (hs : cq_cs p g j n + x ≤ g j) : cq_KK c (n + 1) (cq_up p n j) (cq_up g n x) (cq_up m n y) := by
  obtain ⟨k1, k2, k3⟩ := hK
  refine ⟨fun q hq => ?_, ?_, fun q hq => ?_⟩
  · by_cases w : q = n
    · subst w
      rw [cq_up_s, cq_up_s]
      exact hxy
    · rw [cq_up_n w, cq_up_n w]
      exact k1 q (by omega)
  · rw [cq_up_n (by omega)]
    exact k2
  · rw [cq_cs_s, cq_cs_c2 (p := p) (g := g) (fun i hi => ⟨cq_up_n (by omega), cq_up_n (by omega)⟩), cq_up_s, cq_up_s]
    by_cases w : q = n
    · subst w
      have e : ∀ k, k ≤ q → cq_cs p g q k = 0 := by
        intro k
        induction k with
        | zero =>
          intro _
          rfl
        | succ k ih =>
          intro hk
          rw [cq_cs_s, ih (by omega), if_neg]
          simp only [Bool.and_eq_true, Bool.not_eq_true', beq_eq_false_iff_ne, beq_iff_eq]
          rintro ⟨x1, x2⟩
          have := hT k (by omega) (by omega)
          omega
      rw [e q (Nat.le_refl _), if_neg (by simp; omega)]
      exact Nat.zero_le _
    · rw [cq_up_n w]
      have := k3 q (by omega)
      by_cases w2 : j = q
      · subst w2
        split <;> omega
      · rw [if_neg (by simp [w2])]
        omega
theorem cq_x_addQueue (hI : cq_In b c l n p g m z) (hb : b < 2 ^ 29) {post : Int32 → St2 → Prop} (hp : ∀ r n' p' g' m', cq_In b c l n' p' g' m' z → post r (cq_X c l n' p' g' m' z op)) (v1 v2 v3 : Int32) : wpX_addQueue post (cq_X c l n p g m z op) v1 v2 v3 := by
  obtain ⟨hJ, hD, hL, hK⟩ := hI
  have K : ∀ r, post r (cq_X c l n p g m z op) := fun r => hp r n p g m ⟨hJ, hD, hL, hK⟩
  have hJ' := hJ
  obtain ⟨⟨h1, h2, h3, h4, hn⟩, hT, hg, hm, h0⟩ := hJ
  by_cases e16 : n = 16
  · subst e16
    exact br_t (by decide) (K _)
  refine br_f (nI_ge (b := 16) (by omega) (by decide)) ?_
  rcases cq_ix3 (v := v1) (n := n) (by omega) with h | ⟨j, hj, rfl⟩
  · exact cq_x_isQueue_no h (br_t rfl (K _))
  refine cq_x_isQueue hn hj (br_f (by decide) (cq_x_isBusyLeaf hn hD (by omega) hj ?_))
  have ij : vp_in (nI j) 16 := vp_in_nI (by omega) (by omega)
  have iN : vp_in (nI n) 16 := vp_in_nI (by omega) (by omega)
  cases eb : cq_by n p z j with
  | true => exact br_f (by decide) (K _)
  | false =>
    refine br_t rfl ?_
    by_cases c1 : v2 < 0
    · exact br_t c1 (K _)
    by_cases c2 : v3 < v2
    · exact br_f c1 (br_t c2 (K _))
    by_cases c3 : v3 ≤ nI c
    · have c4 : v2 ≤ v3 := Int32.not_lt.mp c2
      obtain ⟨y, hy, rfl⟩ := cq_in1 (b := c) (fun w => c1 (Int32.lt_of_le_of_lt c4 w)) c3 (by omega)
      obtain ⟨x, hx, rfl⟩ := cq_in1 (b := y) c1 c4 (by omega)
      have hcs := cq_cs_le (p := p) hg j n
      have hgj := hg j
      refine br_f c1 (br_f c2 (br_t c3 (cq_x_childGuarantees hJ' (by omega) ⟨ij, cq_if (d := cq_cs p g j n + x ≤ g j) (by rw [cq_rA g (by omega), nI_add]; exact nI_leI (by omega) (by omega)) (fun w => ?_) (fun w => K _)⟩)))
      have hbu : cq_cc p n j = 0 → cq_u p z j = 0 := by
        intro e
        unfold cq_by at eb
        rw [show decide (cq_cc p n j = 0) = true by simpa using e, Bool.true_and] at eb
        simp only [Bool.or_eq_false_iff, decide_eq_false_iff_not] at eb
        omega
      have ecc : upd (cq_A (cq_cc p n)) (nI j).toNatClampNeg (cq_A (cq_cc p n) (nI j).toNatClampNeg + 1) = cq_A (cq_cc (cq_up p n j) (n + 1)) := by
        rw [cq_rA _ (by omega), nI_clamp (by omega), nI_1, cq_A_up]
        congr 1
        funext q
        rw [cq_cc_new h4]
        by_cases w : q = j
        · subst w
          rw [cq_up_s, if_pos (by simp)]
        · rw [cq_up_n w, if_neg (by simp; omega)]
          rfl
      have eu : cq_u (cq_up p n j) z = cq_u p z := by
        funext q
        exact cq_us_new hT (fun i hi => (hD.2.2.2 i hi).1) q
      have eP : upd (cq_P p) (nI n).toNatClampNeg (nI j) = cq_P (cq_up p n j) := by
        rw [nI_clamp (by omega)]
        exact cq_P_up p j (by omega)
      refine nm_r (nI_1 n) ⟨iN, nm_r eP ⟨ij, ij, nm_r ecc ⟨iN, nm_r (cq_w_set x (by omega)) ⟨iN, nm_r (cq_w_set y (by omega)) ?_⟩⟩⟩⟩
      have hL' : cq_L (n + 1) (cq_up p n j) (cq_up m n y) z := by
        refine ⟨fun q hq => ?_, hL.2.1, hL.2.2⟩
        rw [eu]
        by_cases w : q = n
        · subst w
          have : cq_u p z q = 0 := cq_us_16 hT (fun i hi => (hD.2.2.2 i hi).1) (Nat.le_refl _)
          omega
        · rw [cq_up_n w]
          exact hL.1 q (by omega)
      have K' := hp (nI n) (n + 1) (cq_up p n j) (cq_up g n x) (cq_up m n y) ⟨cq_J_new hJ' (by omega) hj (by omega) (by omega), cq_D_new hT h4 hD hL.2.1 hj hbu, hL', cq_KK_new hT h4 hK hj hx w⟩
      unfold cq_X at K'
      rw [eu] at K'
      exact K'
    · exact br_f c1 (br_f c2 (br_f c3 (K _)))
theorem cq_KK_set (hT : cq_T p n) (hK : cq_KK c n p g m) {j x y : Nat} (j0 : j ≠ 0) (hj : j < n) (hxy : x ≤ y) (hs1 : cq_cs p g j n ≤ x) (hs2 : cq_ck p g (p j) j n + x ≤ g (p j)) : cq_KK c n p (cq_up g j x) (cq_up m j y) := by
  obtain ⟨k1, k2, k3⟩ := hK
  have hpj := hT j (by omega) hj
  refine ⟨fun q hq => ?_, ?_, fun q hq => ?_⟩
  · by_cases w : q = j
    · subst w
      rw [cq_up_s, cq_up_s]
      exact hxy
    · rw [cq_up_n w, cq_up_n w]
      exact k1 q hq
  · rw [cq_up_n (fun w => j0 w.symm)]
    exact k2
  · by_cases w : p j = q
    · subst w
      rw [cq_ck_hi hj j0 rfl, cq_up_s, cq_up_n (show p j ≠ j by omega), cq_ck_c2 (g := g) (fun i hi => cq_up_n hi)]
      exact hs2
    · have ec : cq_cs p (cq_up g j x) q n = cq_cs p g q n := cq_cs_congr (fun i i0 i1 i2 => cq_up_n (fun e => by
        subst e
        exact w i2))
      rw [ec]
      by_cases w2 : q = j
      · subst w2
        rw [cq_up_s]
        exact hs1
      · rw [cq_up_n w2]
        exact k3 q hq
theorem cq_x_setCapacity (hI : cq_In b c l n p g m z) (hb : b < 2 ^ 29) {post : Int32 → St2 → Prop} (hp : ∀ r g' m', cq_In b c l n p g' m' z → post r (cq_X c l n p g' m' z op)) (v1 v2 v3 : Int32) : wpX_setCapacity post (cq_X c l n p g m z op) v1 v2 v3 := by
  obtain ⟨hJ, hD, hL, hK⟩ := hI
  have K : ∀ r, post r (cq_X c l n p g m z op) := fun r => hp r g m ⟨hJ, hD, hL, hK⟩
  have hJ' := hJ
  obtain ⟨⟨h1, h2, h3, h4, hn⟩, hT, hg, hm, h0⟩ := hJ
  unfold wpX_setCapacity
  rcases cq_ix3 (v := v1) (n := n) (by omega) with h | ⟨j, hj, rfl⟩
  · exact cq_x_isQueue_no h (br_t rfl (K _))
  refine cq_x_isQueue hn hj (br_f (by decide) ?_)
  by_cases j0 : j = 0
  · subst j0
    exact br_t rfl (K _)
  have ij : vp_in (nI j) 16 := vp_in_nI (by omega) (by omega)
  have hpj := hT j (by omega) hj
  have hu : cq_u p z j ≤ 64 := cq_us_le _ _ _ _
  refine br_f (nI_ne0 (by omega) (by omega)) ?_
  by_cases c1 : v2 < 0
  · exact br_t c1 (K _)
  by_cases c2 : v3 < v2
  · exact br_f c1 (br_t c2 (K _))
  have c4 : v2 ≤ v3 := Int32.not_lt.mp c2
  by_cases c3 : nI c < v3
  · exact br_f c1 (br_f c2 (br_t c3 (K _)))
  have c5 : v3 ≤ nI c := Int32.not_lt.mp c3
  obtain ⟨y, hy, rfl⟩ := cq_in1 (b := c) (fun w => c1 (Int32.lt_of_le_of_lt c4 w)) c5 (by omega)
  obtain ⟨x, hx, rfl⟩ := cq_in1 (b := y) c1 c4 (by omega)
  have hcs := cq_cs_le (p := p) hg j n
  have hcp := cq_cs_le (p := p) hg (p j) n
  have hgj := hg j
  have hgp := hg (p j)
  have hcj : cq_cs p g (p j) n = cq_ck p g (p j) j n + g j := cq_ck_hi hj j0 rfl
  have ip : vp_in (nI (p j)) 16 := vp_in_nI (by omega) (by omega)
  refine br_f c1 (br_f c2 (br_f c3 ⟨ij, cq_if (d := cq_u p z j ≤ y) (by rw [cq_rA _ (by omega)]; exact nI_leI (by omega) (by omega)) (fun c6 => cq_x_childGuarantees hJ' (by omega) (pk_le (cq_cs p g j n) x (fun c7 => ⟨ij, nm_r (cq_rPp p j0 (by omega)) (cq_x_childGuarantees hJ' (by omega) ⟨ij, nm_r (e' := nI (cq_ck p g (p j) j n)) (by rw [cq_rA g (by omega), pk_sub (by omega)]; congr 1; omega) ⟨ip, cq_if (d := cq_ck p g (p j) j n + x ≤ g (p j)) (by rw [cq_rA g (by omega), nI_add]; exact nI_leI (by omega) (by omega)) (fun w => ?_) (fun w => K _)⟩⟩)⟩) (fun c7 => K _))) (fun c6 => K _)⟩))
  refine ⟨ij, nm_r (cq_w_set x (by omega)) ⟨ij, nm_r (cq_w_set y (by omega)) (hp _ _ _ ⟨cq_J_set hJ' j0 (by omega) (by omega), hD, ⟨fun q hq => ?_, hL.2.1, hL.2.2⟩, cq_KK_set hT hK j0 hj hx c7 w⟩)⟩⟩
  by_cases w2 : q = j
  · subst w2
    rw [cq_up_s]
    exact c6
  · rw [cq_up_n w2]
    exact hL.1 q hq
theorem cq_x_submit (hI : cq_In b c l n p g m z) (hb : b < 2 ^ 29) {post : Int32 → St2 → Prop} (hp : ∀ r z', cq_In (b + 64) c l n p g m z' → cq_t z' = cq_t z → post r (cq_X c l n p g m z' op)) (v1 v2 v3 : Int32) : wpX_submit post (cq_X c l n p g m z op) v1 v2 v3 := by
  have K : ∀ r, post r (cq_X c l n p g m z op) := fun r => hp r z (cq_In_up hI (by omega)) rfl
  obtain ⟨hJ, hD, hL, hK⟩ := hI
  have hn := hJ.1.2.2.2.2
  unfold wpX_submit
  rcases cq_ix3 (v := v1) (n := n) (by omega) with h | ⟨j, hj, rfl⟩
  · exact cq_x_isLeaf_no h (br_t rfl (K _))
  refine cq_x_isLeaf hn hj (cq_b0 (fun _ => K _) (fun _ => ?_))
  rcases cq_ix3 (v := v2) (n := 4) (by omega) with h | ⟨u, hu, rfl⟩
  · exact cq_x_isUser_no h (br_t rfl (K _))
  refine cq_x_isUser hu (br_f (by decide) ?_)
  by_cases h1 : v3 < 1
  · exact br_t h1 (K _)
  by_cases h2 : v3 ≤ 64
  · obtain ⟨d, hd, rfl⟩ := cq_in1 (b := 64) (fun w => h1 (Int32.lt_trans w (by decide))) h2 (by decide)
    have ix : vp_in (nI j * 4 + nI u) 64 := by rw [cq_ix]; exact vp_in_nI (by omega) (by omega)
    have hr := hD.2.1 (j * 4 + u)
    exact br_f h1 (br_t h2 ⟨ix, ix, nm_r (cq_w_add d (by omega)) (hp _ (cq_sr z (j * 4 + u) (cq_r z (j * 4 + u) + d)) ⟨hJ, cq_D_up (cq_D_sr (B' := b + 64) hD (by omega) (by omega) (by omega)) (by omega) (Nat.le_refl _), hL, hK⟩ rfl)⟩)
  · exact br_f h1 (br_f h2 (K _))
theorem cq_x_cancel (hI : cq_In b c l n p g m z) (hb : b < 2 ^ 29) {post : Int32 → St2 → Prop} (hp : ∀ r z', cq_In b c l n p g m z' → cq_t z' = cq_t z → post r (cq_X c l n p g m z' op)) (v1 v2 : Int32) : wpX_cancel post (cq_X c l n p g m z op) v1 v2 := by
  have K : ∀ r, post r (cq_X c l n p g m z op) := fun r => hp r z hI rfl
  obtain ⟨hJ, hD, hL, hK⟩ := hI
  have hn := hJ.1.2.2.2.2
  unfold wpX_cancel
  rcases cq_ix3 (v := v1) (n := n) (by omega) with h | ⟨j, hj, rfl⟩
  · exact cq_x_isLeaf_no h (br_t rfl (K _))
  refine cq_x_isLeaf hn hj (cq_b0 (fun _ => K _) (fun _ => ?_))
  rcases cq_ix3 (v := v2) (n := 4) (by omega) with h | ⟨u, hu, rfl⟩
  · exact cq_x_isUser_no h (br_t rfl (K _))
  have ix : vp_in (nI j * 4 + nI u) 64 := by rw [cq_ix]; exact vp_in_nI (by omega) (by omega)
  exact cq_x_isUser hu (br_f (by decide) ⟨ix, nm_e ⟨ix, nm_r (cq_w_zero (by omega)) (hp _ (cq_sr z (j * 4 + u) 0) ⟨hJ, cq_D_sr hD (by omega) (Nat.le_refl _) (by omega), hL, hK⟩ rfl)⟩⟩)
theorem cq_L_del (h : cq_L n p m z) {v : Nat} (hv : v < 64) (hl : cq_lv z v = true) : cq_L n p m (cq_del z v) := by
  obtain ⟨h1, h2, h3⟩ := h
  have key : ∀ i, cq_lv (cq_del z v) i = true → cq_lv z i = true := by
    intro i hi
    have hi' : cq_ub (cq_lv z) v false i = true := hi
    by_cases w : i = v
    · subst w
      exact hl
    · rw [cq_ub_n w] at hi'
      exact hi'
  refine ⟨fun q hq => ?_, fun i hi => h2 i (key i hi), fun i j hi hj e => h3 i j (key i hi) (key j hj) e⟩
  have := h1 q hq
  have := cq_u_del p hv hl q
  omega
theorem cq_x_complete (hI : cq_In b c l n p g m z) (hb : b < 2 ^ 29) {post : Int32 → St2 → Prop} (hp : ∀ r z', cq_In b c l n p g m z' → cq_t z' = cq_t z → post r (cq_X c l n p g m z' op)) (v1 : Int32) : wpX_complete post (cq_X c l n p g m z op) v1 := by
  have K : ∀ r, post r (cq_X c l n p g m z op) := fun r => hp r z hI rfl
  obtain ⟨hJ, hD, hL, hK⟩ := hI
  have hn := hJ.1.2.2.2.2
  have hT := hJ.2.1
  unfold wpX_complete
  by_cases h0 : 0 < v1
  · obtain ⟨d, hd, rfl⟩ := nI_of (x := v1) (fun w => Int32.lt_irrefl (Int32.lt_trans w h0))
    have hd0 : 0 < d := by
      rw [show (0 : Int32) = nI 0 from rfl, nI_ltI (by decide) hd] at h0
      exact h0
    refine cq_x_slotOf hD (by omega) hd0 hd ?_
    cases e : cq_fnd (cq_at z d) 0 64 with
    | none => exact br_t rfl (K _)
    | some s =>
      obtain ⟨a, _, b'⟩ := cq_fnd_some e
      have hl : cq_lv z s = true := by
        unfold cq_at at a
        simp only [Bool.and_eq_true] at a
        exact a.1
      exact br_f (cq_m1 (by omega)) (cq_x_remove hT hn hD (by omega) hl (hp _ (cq_del z s) ⟨hJ, cq_D_del hD s, cq_L_del hL (by omega) hl, hK⟩ rfl))
  · exact br_f h0 (br_t rfl (K _))
theorem cq_x_schedule (hI : cq_In b c l n p g m z) (hb : b < 2 ^ 29) {post : Int32 → St2 → Prop} (hp : ∀ k z' op', cq_In (b + 64) c l n p g m z' → cq_t z' = cq_t z + k → k ≤ 2 ^ 20 → post (nI k) (cq_X c l n p g m z' op')) : wpX_schedule post (cq_X c l n p g m z op) := by
  obtain ⟨hJ, hD, hL, hK⟩ := hI
  have hh := hJ.1
  unfold wpX_schedule
  refine cq_x_fill hJ (by omega) hD (by omega) (fun op' => ?_)
  obtain ⟨e1, e2, e3⟩ := cq_fz_L hJ c _ z hD hL
  have hu : cq_u p (cq_fz l n p g m c z) 0 ≤ 64 := cq_us_le _ _ _ _
  exact hp _ (cq_fz l n p g m c z) op' ⟨hJ, cq_D_up (cq_fz_D hJ.2.1 hh.2.2.2.1 hh.2.2.2.2 c _ z hD) (by omega) (by omega), e1, hK⟩ e2 (by omega)
theorem cq_pn_le : ∀ d z, cq_pn l n p g m d z ≤ d := by
  intro d
  induction d with
  | zero =>
    intro z
    exact Nat.le_refl _
  | succ d ih =>
    intro z
    rw [cq_pn_s]
    cases e : cq_rd l n p g m z with
    | none => exact Nat.zero_le _
    | some z' =>
      have := ih z'
      show cq_pn l n p g m d z' + 1 ≤ d + 1
      omega
theorem cq_x_pre (hI : cq_In b c l n p g m z) (hb : b < 2 ^ 29) {post : Int32 → St2 → Prop} (hp : ∀ k j z' op', cq_In (b + 128) c l n p g m z' → cq_t z' = cq_t z + k + j → cq_u p z' 0 = cq_u p z 0 + k → cq_sv l n p g z' = none → k ≤ 64 → j ≤ 2 ^ 20 → post (nI j) (cq_X c l n p g m z' op')) : wpX_preempt post (cq_X c l n p g m z op) := by
  obtain ⟨hJ, hD, hL, hK⟩ := hI
  have hh := hJ.1
  refine cq_x_preempt hJ hD (by omega) (by omega) (fun op' => ?_)
  obtain ⟨e1, e2, e3⟩ := cq_fz_L hJ c _ z hD hL
  have hDf := cq_fz_D (g := g) (m := m) (l := l) hJ.2.1 hh.2.2.2.1 hh.2.2.2.2 c _ z hD
  have hof := cq_fz_off hJ c _ z hD (by omega)
  have hN := cq_N_0 hJ.2.1 e1 hof
  have hdn := cq_dn_le hJ.2.1 hh.2.2.2.1 hK (cq_fz l n p g m c z)
  obtain ⟨f1, f2, f3, f4⟩ := cq_pz_ok hJ hK 64 _ _ _ hDf e1 hN (by omega)
  have hDp := cq_pz_D (l := l) (n := n) (p := p) (g := g) (m := m) 64 _ _ _ hDf
  have hu : cq_u p (cq_fz l n p g m c z) 0 ≤ 64 := cq_us_le _ _ _ _
  have ht := hDp.1.2
  exact hp (cq_fn l n p g m c z) _ _ op' ⟨hJ, cq_D_up hDp (by omega) (by omega), f1, hK⟩ (by rw [f3, e2]) (by rw [f4, e3]) f2 (by omega) (Nat.le_trans (cq_pn_le 64 _) (by decide))
end
end
section
/-! the law's checks, over a state that keeps the picture -/
theorem cq_l_mod {post : Int32 → Prop} {a : Int32} {k : Nat} (h0 : 0 < k) (hk : k < 2 ^ 31) (hp : ∀ r, r < k → post (nI r)) : wpL_mod post () a (nI k) := by
  obtain ⟨x, e, hx⟩ := fmv_nat (a := a) (m := nI k) (by rw [nI_toInt hk]; omega)
  rw [nI_toInt hk] at hx
  have hpx := hp x (by omega)
  refine ⟨nI_ne0 h0 hk, nm_e ?_⟩
  unfold fmv fmOf at e
  by_cases h : 0 ≤ a - a / nI k * nI k
  · rw [if_pos h] at e
    refine br_t h ?_
    rw [e]
    exact hpx
  · rw [if_neg h] at e
    refine br_f h ?_
    rw [e]
    exact hpx
theorem cq_l_cell {post : Int32 → Prop} {L : Nat} {xs : Nat → Int32} {i : Nat} (hL : L < 2 ^ 31) (hi : i < 2 ^ 31) (hp : ∀ r, post r) : wpL_cell post L xs () (nI i) :=
  pk_le L i (fun _ => hp _) (fun h => ⟨vp_in_nI h hL, hp _⟩)
def cq_sh (z : cq_Z) (q : Nat) : Nat → Nat
  | 0 => 0
  | k + 1 => cq_sh z q k + cq_h z (q * 4 + k)
theorem cq_sh_le (z : cq_Z) (q k : Nat) : cq_sh z q k ≤ 64 * k := by
  induction k with
  | zero => exact Nat.le_refl 0
  | succ k ih =>
    have : cq_h z (q * 4 + k) ≤ 64 := cq_hs_le _ _ _ _
    show cq_sh z q k + cq_h z (q * 4 + k) ≤ 64 * (k + 1)
    omega
theorem cq_cc_s {p : Nat → Nat} {q i : Nat} : cq_cc p (i + 1) q = cq_cc p i q + (if (!(i == 0) && (p i == q)) then 1 else 0) := rfl
section
variable {b c l n : Nat} {p g m : Nat → Nat} {z : cq_Z} {op : Nat → Int32} {post : Int32 → Prop} {L : Nat} {xs : Nat → Int32} {J45 : Int32 → Int32 → Int32 → Int32 → Int32 → Int32 → Int64 → (Nat → Int32) → (Nat → Int32) → (Nat → Int32) → (Nat → Int32) → (Nat → Int32) → (Nat → Int32) → (Nat → Int32) → (Nat → Int64) → (Nat → Int32) → (Nat → Int32) → (Nat → Int32) → Prop} {J94 : Int32 → Prop} {x1 x5 x6 : Int32} {kc ks M : Nat}
theorem cq_x_parentOf (hn : n ≤ 16) {j : Nat} (hj : j < n) {post : Int32 → Prop} (hp : post (cq_P p (nI j).toNatClampNeg)) : wpX_parentOf post (cq_X c l n p g m z op) (nI j) := by
  unfold wpX_parentOf
  exact cq_x_isQueue hn hj (br_f (by decide) ⟨vp_in_nI (by omega) (by omega), hp⟩)
theorem cq_x_guarantee (hn : n ≤ 16) {j : Nat} (hj : j < n) {post : Int32 → Prop} (hp : post (nI (g j))) : wpX_guarantee post (cq_X c l n p g m z op) (nI j) := by
  unfold wpX_guarantee
  refine cq_x_isQueue hn hj (br_f (by decide) ⟨vp_in_nI (by omega) (by omega), ?_⟩)
  rw [cq_rA g (by omega)]
  exact hp
theorem cq_x_maxCapacity (hn : n ≤ 16) {j : Nat} (hj : j < n) {post : Int32 → Prop} (hp : post (nI (m j))) : wpX_maxCapacity post (cq_X c l n p g m z op) (nI j) := by
  unfold wpX_maxCapacity
  refine cq_x_isQueue hn hj (br_f (by decide) ⟨vp_in_nI (by omega) (by omega), ?_⟩)
  rw [cq_rA m (by omega)]
  exact hp
theorem cq_x_used (hn : n ≤ 16) {j : Nat} (hj : j < n) {post : Int32 → Prop} (hp : post (nI (cq_u p z j))) : wpX_used post (cq_X c l n p g m z op) (nI j) := by
  unfold wpX_used
  refine cq_x_isQueue hn hj (br_f (by decide) ⟨vp_in_nI (by omega) (by omega), ?_⟩)
  rw [cq_rA (cq_u p z) (by omega)]
  exact hp
theorem cq_x_userUsed (hn : n ≤ 16) {j u : Nat} (hj : j < n) (hc : cq_cc p n j = 0) (hu : u < 4) {post : Int32 → Prop} (hp : post (nI (cq_h z (j * 4 + u)))) : wpX_userUsed post (cq_X c l n p g m z op) (nI j) (nI u) := by
  unfold wpX_userUsed
  refine cq_x_isQueue hn hj (br_f (by decide) (cq_x_isUser hu (br_f (by decide) (cq_x_isLeaf hn hj ?_))))
  rw [cq_hc_f hc]
  refine br_f (by decide) ⟨by rw [cq_ix]; exact vp_in_nI (by omega) (by omega), ?_⟩
  rw [cq_ix, cq_rA _ (by omega)]
  exact hp
theorem cq_x_pending (hn : n ≤ 16) {j u : Nat} (hj : j < n) (hc : cq_cc p n j = 0) (hu : u < 4) {post : Int32 → Prop} (hp : post (nI (cq_r z (j * 4 + u)))) : wpX_pending post (cq_X c l n p g m z op) (nI j) (nI u) := by
  unfold wpX_pending
  refine cq_x_isQueue hn hj (br_f (by decide) (cq_x_isUser hu (br_f (by decide) (cq_x_isLeaf hn hj ?_))))
  rw [cq_hc_f hc]
  refine br_f (by decide) ⟨by rw [cq_ix]; exact vp_in_nI (by omega) (by omega), ?_⟩
  rw [cq_ix, cq_rA _ (by omega)]
  exact hp
theorem cq_x_containerInfo {T' B' : Nat} (hD : cq_D T' B' n p z) (hT' : T' < 2 ^ 31) {d : Nat} (hd0 : 0 < d) (hd : d < 2 ^ 31) {post : Int32 → Prop} (h0 : cq_fnd (cq_at z d) 0 64 = none → post (-1)) (h1 : ∀ s, cq_fnd (cq_at z d) 0 64 = some s → post (nI (cq_cl z s * 4 + cq_cu z s))) : wpX_containerInfo post (cq_X c l n p g m z op) (nI d) := by
  unfold wpX_containerInfo
  refine cq_x_slotOf hD hT' hd0 hd ?_
  cases e : cq_fnd (cq_at z d) 0 64 with
  | none => exact br_t rfl (h0 e)
  | some s =>
    obtain ⟨a, _, b⟩ := cq_fnd_some e
    have is : vp_in (nI s) 64 := vp_in_nI (by omega) (by omega)
    have hp := h1 s e
    refine br_f (cq_m1 (by omega)) ⟨is, is, ?_⟩
    show post (cq_A (cq_cl z) (nI s).toNatClampNeg * 4 + cq_A (cq_cu z) (nI s).toNatClampNeg)
    rw [cq_rA _ (by omega), cq_rA _ (by omega), cq_ix]
    exact hp
/-- the ids counted are the live containers -/
theorem cq_ids_u (hI : cq_In b c l n p g m z) {q : Nat} (hc : cq_cc p n q = 0) {K : Nat} (hK : cq_t z ≤ K) : cq_cnt (cq_iq z q) K = cq_u p z q := by
  obtain ⟨hJ, hD, hL, hKK⟩ := hI
  rw [cq_cnt_congr (f := fun d => cq_any (fun i => cq_at z d i && (cq_cl z i == q)) 64) (fun d _ => cq_iq_any hL.2.2 q d)]
  rw [cq_ids hL.2.2 (fun i hi => by have := (hD.2.2.2 i hi).2.2.2.1; omega) 64]
  refine cq_cnt_congr fun i _ => ?_
  cases w : cq_lv z i with
  | false => rfl
  | true => rw [cq_un_leaf hJ.2.1 (hD.2.2.2 i w).1 hc]
theorem cq_l_309 (hI : cq_In b c l n p g m z) (hb : b < 2 ^ 29) (hM : M + 1 = cq_t z) (hx5 : x5 = 0 ∨ cq_sv l n p g z = none) {q : Nat} (hq : q < n) (hc : cq_cc p n q = 0) {x9 : Int32} (hJ94 : J94 (nI (q + 1))) : ∀ d i f, i + d = M + 65 → 1 ≤ i → d < f → wL_law_309 post L xs J45 J94 x1 (nI M) x5 x6 (nI n) x9 (nI q) (nI (cq_u p z q)) (nI (cq_e l z q)) kc ks (nI c) (nI l) (nI n) (lN (cq_t z)) (cq_P p) (cq_A (cq_cc p n)) (cq_A g) (cq_A m) (cq_A (cq_u p z)) (cq_A (cq_r z)) (cq_A (cq_h z)) (cq_G (cq_lv z) (cq_id z)) (cq_A (cq_cl z)) (cq_A (cq_cu z)) op f (nI (cq_cnt (cq_iq z q) i)) (nI i) := by
  have hI' := hI
  obtain ⟨hJ, hD, hL, hKK⟩ := hI
  have hn := hJ.1.2.2.2.2
  have ht := hD.1.2
  have hu : cq_u p z q ≤ 64 := cq_us_le _ _ _ _
  have hg := hJ.2.2.1 q
  have he := cq_e_le l z q
  have hl := hJ.1.2.2.1
  intro d
  induction d with
  | zero =>
    intro i f hi h1 hf
    obtain ⟨f, rfl⟩ : ∃ k, f = k + 1 := ⟨f - 1, by omega⟩
    have e : cq_cnt (cq_iq z q) i = cq_u p z q := cq_ids_u hI' hc (by omega)
    rw [e]
    refine cq_if (d := M + 64 < i) (by rw [show (64 : Int32) = nI 64 from rfl, nI_add]; exact nI_ltI (by omega) (by omega)) (fun _ => br_t rfl ?_) (fun w => absurd (show M + 64 < i by omega) w)
    by_cases w5 : x5 = 0
    · exact br_t w5 (nm_r (nI_1 q) hJ94)
    · refine br_f w5 (cq_x_guarantee hn hq (pk_le (g q) (cq_u p z q) (fun _ => nm_r (nI_1 q) hJ94) (fun w => ?_)))
      have hsv := hx5.resolve_left w5
      have he0 : cq_e l z q = 0 := by
        have h3 := cq_fnd_none hsv q (by omega) (by omega)
        apply Nat.eq_zero_of_not_pos
        intro h4
        rw [cq_st_yes hc w h4] at h3
        exact absurd h3 (by decide)
      rw [he0]
      exact br_t (by decide) (nm_r (nI_1 q) hJ94)
  | succ d ih =>
    intro i f hi h1 hf
    obtain ⟨f, rfl⟩ : ∃ k, f = k + 1 := ⟨f - 1, by omega⟩
    have ih' := ih (i + 1) f (by omega) (by omega) (by omega)
    rw [cq_cnt_s] at ih'
    refine cq_if (d := M + 64 < i) (by rw [show (64 : Int32) = nI 64 from rfl, nI_add]; exact nI_ltI (by omega) (by omega)) (fun w => by omega) (fun _ => cq_x_containerInfo hD (by omega) (by omega) (by omega) (fun e => ?_) (fun s e => ?_))
    · rw [show cq_iq z q i = false by unfold cq_iq; rw [e]] at ih'
      exact br_t (by decide) (nm_r (nI_1 i) ih')
    · obtain ⟨a1, _, a2⟩ := cq_fnd_some e
      have hls : cq_lv z s = true := by
        unfold cq_at at a1
        simp only [Bool.and_eq_true] at a1
        exact a1.1
      obtain ⟨b1, b2, b3, b4, b5⟩ := hD.2.2.2 s hls
      have eq : cq_iq z q i = (cq_cl z s == q) := by unfold cq_iq; rw [e]
      have ed : nI (cq_cl z s * 4 + cq_cu z s) / 4 = nI (cq_cl z s) := by
        rw [show (4 : Int32) = nI 4 from rfl, pk_div (by omega) (by decide) (by decide)]
        congr 1
        omega
      refine br_f (nI_pos (by omega)) ⟨by decide, ?_⟩
      rw [ed]
      refine pk_eq (cq_cl z s) q (fun w => nm_r (nI_1 _) (nm_r (nI_1 i) ?_)) (fun w => nm_r (nI_1 i) ?_)
      · rw [eq, show (cq_cl z s == q) = true by simpa using w] at ih'
        exact ih'
      · rw [eq, show (cq_cl z s == q) = false by simpa using w] at ih'
        exact ih'
theorem cq_l_224 (hI : cq_In b c l n p g m z) (hb : b < 2 ^ 29) (hM : M + 1 = cq_t z) (hx5 : x5 = 0 ∨ cq_sv l n p g z = none) {q : Nat} (hq : q < n) (hc : cq_cc p n q = 0) (hJ94 : J94 (nI (q + 1))) : ∀ d k f, k + d = 4 → d < f → wL_law_224 post L xs J45 J94 x1 (nI M) x5 x6 (nI n) (nI l) (nI q) (nI (cq_u p z q)) kc ks (nI c) (nI l) (nI n) (lN (cq_t z)) (cq_P p) (cq_A (cq_cc p n)) (cq_A g) (cq_A m) (cq_A (cq_u p z)) (cq_A (cq_r z)) (cq_A (cq_h z)) (cq_G (cq_lv z) (cq_id z)) (cq_A (cq_cl z)) (cq_A (cq_cu z)) op f (nI (cq_sh z q k)) (nI (cq_E (cq_r z) (cq_h z) l q k)) (nI k) := by
  have hI' := hI
  obtain ⟨hJ, hD, hL, hKK⟩ := hI
  have hn := hJ.1.2.2.2.2
  have h64 := hJ.1.2.2.1
  have ht := hD.1.2
  intro d
  induction d with
  | zero =>
    intro k f hk hf
    obtain ⟨f, rfl⟩ : ∃ k, f = k + 1 := ⟨f - 1, by omega⟩
    have e : k = 4 := by omega
    subst e
    have es : cq_sh z q 4 = cq_u p z q := by
      have := cq_us_leaf (cu := cq_cu z) hJ.2.1 hc (fun i hi => ⟨(hD.2.2.2 i hi).1, (hD.2.2.2 i hi).2.1⟩) 64
      show 0 + cq_h z (q * 4 + 0) + cq_h z (q * 4 + 1) + cq_h z (q * 4 + 2) + cq_h z (q * 4 + 3) = cq_u p z q
      rw [Nat.zero_add]
      exact this.symm
    rw [es]
    have e1 : cq_cnt (cq_iq z q) 1 = 0 := by
      refine cq_cnt_0 fun i hi => ?_
      have hi0 : i = 0 := by omega
      subst hi0
      unfold cq_iq
      cases w : cq_fnd (cq_at z 0) 0 64 with
      | none => rfl
      | some s =>
        obtain ⟨a1, _, _⟩ := cq_fnd_some w
        unfold cq_at at a1
        simp only [Bool.and_eq_true, beq_iff_eq] at a1
        have := (hD.2.2.2 s a1.1).2.2.1
        omega
    have h309 := cq_l_309 (post := post) (L := L) (xs := xs) (J45 := J45) (x1 := x1) (x6 := x6) (kc := kc) (ks := ks) (op := op) (x9 := nI l) hI' hb hM hx5 hq hc hJ94 (M + 64) 1 (M + 65) (by omega) (by omega) (by omega)
    rw [e1] at h309
    exact pk_le 4 4 (fun _ => br_t rfl (Exists.intro (M + 65) h309)) (fun h => by omega)
  | succ d ih =>
    intro k f hk hf
    obtain ⟨f, rfl⟩ : ∃ k, f = k + 1 := ⟨f - 1, by omega⟩
    have ih' := ih (k + 1) f (by omega) (by omega)
    rw [cq_E_s, show cq_sh z q (k + 1) = cq_sh z q k + cq_h z (q * 4 + k) from rfl] at ih'
    have hh : cq_h z (q * 4 + k) ≤ 64 := cq_hs_le _ _ _ _
    have hr := hD.2.1 (q * 4 + k)
    refine pk_le 4 k (fun h => by omega) (fun _ => cq_x_userUsed hn hq hc (by omega) (nm_r (nI_add _ _) ?_))
    by_cases hl : l ≤ cq_h z (q * 4 + k)
    · refine nm_e (br_t ((cq_s1 h64 hh).mpr hl) (nm_r (nI_1 k) ?_))
      rw [show min (cq_r z (q * 4 + k)) (l - cq_h z (q * 4 + k)) = 0 by omega] at ih'
      exact ih'
    · refine nm_r (pk_sub (by omega)) (br_f (nI_nle (by omega) (by omega)) (cq_x_pending hn hq hc (by omega) (pk_le (l - cq_h z (q * 4 + k)) (cq_r z (q * 4 + k)) (fun hle => nm_r (nI_add _ _) (nm_r (nI_1 k) ?_)) (fun hle => nm_r (nI_add _ _) (nm_r (nI_1 k) ?_)))))
      · rw [show min (cq_r z (q * 4 + k)) (l - cq_h z (q * 4 + k)) = l - cq_h z (q * 4 + k) by omega] at ih'
        exact ih'
      · rw [show min (cq_r z (q * 4 + k)) (l - cq_h z (q * 4 + k)) = cq_r z (q * 4 + k) by omega] at ih'
        exact ih'
theorem cq_cs_u {q : Nat} : ∀ k, cq_cs p (cq_u p z) q k ≤ 64 * k := fun k => cq_cs_le (fun q => cq_us_le _ _ _ _) q k
theorem cq_l_139 (hI : cq_In b c l n p g m z) (hb : b < 2 ^ 29) (hM : M + 1 = cq_t z) (hx5 : x5 = 0 ∨ cq_sv l n p g z = none) {q : Nat} (hq : q < n) (hJ94 : J94 (nI (q + 1))) : ∀ d k f, k + d = n → d < f → wL_law_139 post L xs J45 J94 x1 (nI M) x5 x6 (nI n) (nI l) (nI q) (nI (cq_u p z q)) kc ks (nI c) (nI l) (nI n) (lN (cq_t z)) (cq_P p) (cq_A (cq_cc p n)) (cq_A g) (cq_A m) (cq_A (cq_u p z)) (cq_A (cq_r z)) (cq_A (cq_h z)) (cq_G (cq_lv z) (cq_id z)) (cq_A (cq_cl z)) (cq_A (cq_cu z)) op f (cq_bI (decide (cq_cc p k q = 0))) (nI (cq_cs p (cq_u p z) q k)) (nI (cq_cs p g q k)) (nI k) := by
  have hI' := hI
  obtain ⟨hJ, hD, hL, hKK⟩ := hI
  have hn := hJ.1.2.2.2.2
  have hT := hJ.2.1
  have hg := hJ.2.2.1
  intro d
  induction d with
  | zero =>
    intro k f hk hf
    obtain ⟨f, rfl⟩ : ∃ k, f = k + 1 := ⟨f - 1, by omega⟩
    have e : k = n := by omega
    subst e
    have hs := hKK.2.2 q hq
    have hgq := hg q
    refine pk_le k k (fun _ => cq_x_guarantee hn hq (pk_le (cq_cs p g q k) (g q) (fun _ => cq_b0 (fun w => ?_) (fun w => ?_)) (fun h => by omega))) (fun h => by omega)
    · have hc : cq_cc p k q ≠ 0 := by simpa using w
      have e : cq_u p z q = cq_cs p (cq_u p z) q k := cq_us_in hT hc (fun i hi => ⟨(hD.2.2.2 i hi).1, (hD.2.2.2 i hi).2.2.2.2⟩) 64
      refine br_t (congrArg nI e) (nm_r (nI_1 q) hJ94)
    · have hc : cq_cc p k q = 0 := by simpa using w
      exact Exists.intro 5 (cq_l_224 hI' hb hM hx5 hq hc hJ94 4 0 5 (by omega) (by omega))
  | succ d ih =>
    intro k f hk hf
    obtain ⟨f, rfl⟩ : ∃ k, f = k + 1 := ⟨f - 1, by omega⟩
    have ih' := ih (k + 1) f (by omega) (by omega)
    rw [cq_cs_s, cq_cs_s, cq_cc_s] at ih'
    refine pk_le n k (fun h => by omega) (fun _ => cq_x_parentOf hn (by omega) ?_)
    by_cases k0 : k = 0
    · subst k0
      exact br_f (cq_pe0 (by omega)) (nm_r (nI_1 0) ih')
    · refine cq_if (cq_pe hT hn k0 (by omega) (by omega)) (fun e => cq_x_used hn (by omega) (nm_r (nI_add _ _) (cq_x_guarantee hn (by omega) (nm_r (nI_add _ _) (nm_r (nI_1 k) ?_))))) (fun e => nm_r (nI_1 k) ?_)
      · have w : (!(k == 0) && (p k == q)) = true := by simp [k0, e]
        rw [if_pos w, if_pos w, if_pos w, show decide (cq_cc p k q + 1 = 0) = false by simp] at ih'
        exact ih'
      · have w : ¬ (!(k == 0) && (p k == q)) = true := by simp [e]
        rw [if_neg w, if_neg w, if_neg w] at ih'
        exact ih'
theorem cq_l_94 (hI : cq_In b c l n p g m z) (hb : b < 2 ^ 29) (hM : M + 1 = cq_t z) (hx5 : x5 = 0 ∨ cq_sv l n p g z = none) (hE : ∀ f, wL_law_94 post L xs J45 x1 (nI M) x5 x6 (nI n) (nI l) kc ks (nI c) (nI l) (nI n) (lN (cq_t z)) (cq_P p) (cq_A (cq_cc p n)) (cq_A g) (cq_A m) (cq_A (cq_u p z)) (cq_A (cq_r z)) (cq_A (cq_h z)) (cq_G (cq_lv z) (cq_id z)) (cq_A (cq_cl z)) (cq_A (cq_cu z)) op (f + 1) (nI n)) : ∀ d q f, q + d = n → d < f → wL_law_94 post L xs J45 x1 (nI M) x5 x6 (nI n) (nI l) kc ks (nI c) (nI l) (nI n) (lN (cq_t z)) (cq_P p) (cq_A (cq_cc p n)) (cq_A g) (cq_A m) (cq_A (cq_u p z)) (cq_A (cq_r z)) (cq_A (cq_h z)) (cq_G (cq_lv z) (cq_id z)) (cq_A (cq_cl z)) (cq_A (cq_cu z)) op f (nI q) := by
  have hI' := hI
  obtain ⟨hJ, hD, hL, hKK⟩ := hI
  have hn := hJ.1.2.2.2.2
  have hm := hJ.2.2.2.1
  intro d
  induction d with
  | zero =>
    intro q f hq hf
    obtain ⟨f, rfl⟩ : ∃ k, f = k + 1 := ⟨f - 1, by omega⟩
    have e : q = n := by omega
    subst e
    exact hE f
  | succ d ih =>
    intro q f hq hf
    obtain ⟨f, rfl⟩ : ∃ k, f = k + 1 := ⟨f - 1, by omega⟩
    have hu : cq_u p z q ≤ 64 := cq_us_le _ _ _ _
    have hmq := hm q
    have hum := hL.1 q (by omega)
    refine pk_le n q (fun h => by omega) (fun _ => cq_x_used hn (by omega) (br_f (nI_pos (by omega)) (cq_x_maxCapacity hn (by omega) (pk_le (cq_u p z q) (m q) (fun _ => ?_) (fun h => by omega)))))
    exact Exists.intro (n + 1) (cq_l_139 hI' hb hM hx5 (by omega) (ih (q + 1) f (by omega) (by omega)) n 0 (n + 1) (by omega) (by omega))
end
end
section
/-! the law's choice of an operation, and its turn -/
section
variable {b c l n : Nat} {p g m : Nat → Nat} {z : cq_Z} {op : Nat → Int32} {post : Int32 → Prop} {L : Nat} {xs : Nat → Int32} {J45 : Int32 → Int32 → Int32 → Int32 → Int32 → Int32 → Int64 → (Nat → Int32) → (Nat → Int32) → (Nat → Int32) → (Nat → Int32) → (Nat → Int32) → (Nat → Int32) → (Nat → Int32) → (Nat → Int64) → (Nat → Int32) → (Nat → Int32) → (Nat → Int32) → Prop} {x1 x4 x5 x6 x10 x11 x12 x13 x15 : Int32} {kc ks M : Nat}
theorem cq_l_462 (hT : cq_T p n) (hn : n ≤ 16) {J449 : Int32 → Int32 → Prop} {q k : Nat} (hq : q < n) (hl : cq_cc p n q = 0 → J449 (nI (k + 1)) (nI (q + 1))) (hi : cq_cc p n q ≠ 0 → J449 (nI k) (nI (q + 1))) : ∀ d i f, i + d = n → d < f → wL_law_462 post L xs J45 J449 x1 x4 x5 x6 (nI n) x10 x11 x12 x13 (nI k) (nI q) kc ks (nI c) (nI l) (nI n) (lN (cq_t z)) (cq_P p) (cq_A (cq_cc p n)) (cq_A g) (cq_A m) (cq_A (cq_u p z)) (cq_A (cq_r z)) (cq_A (cq_h z)) (cq_G (cq_lv z) (cq_id z)) (cq_A (cq_cl z)) (cq_A (cq_cu z)) op f (cq_bI (decide (cq_cc p i q = 0))) (nI i) := by
  intro d
  induction d with
  | zero =>
    intro i f hd hf
    obtain ⟨f, rfl⟩ : ∃ k, f = k + 1 := ⟨f - 1, by omega⟩
    have e : i = n := by omega
    subst e
    exact pk_le i i (fun _ => cq_b0 (fun w => nm_r (nI_1 q) (hi (by simpa using w))) (fun w => nm_r (nI_1 k) (nm_r (nI_1 q) (hl (by simpa using w))))) (fun h => by omega)
  | succ d ih =>
    intro i f hd hf
    obtain ⟨f, rfl⟩ : ∃ k, f = k + 1 := ⟨f - 1, by omega⟩
    have ih' := ih (i + 1) f (by omega) (by omega)
    rw [cq_cc_s] at ih'
    refine pk_le n i (fun h => by omega) (fun _ => cq_x_parentOf hn (by omega) ?_)
    by_cases k0 : i = 0
    · subst k0
      exact br_f (cq_pe0 (by omega)) (nm_r (nI_1 0) ih')
    · refine cq_if (cq_pe hT hn k0 (by omega) (by omega)) (fun e => nm_r (nI_1 i) ?_) (fun e => nm_r (nI_1 i) ?_)
      · have w : (!(i == 0) && (p i == q)) = true := by simp [k0, e]
        rw [if_pos w, show decide (cq_cc p i q + 1 = 0) = false by simp] at ih'
        exact ih'
      · have w : ¬ (!(i == 0) && (p i == q)) = true := by simp [e]
        rw [if_neg w] at ih'
        exact ih'
theorem cq_last (hT : cq_T p n) (h1 : 1 ≤ n) : cq_cc p n (n - 1) = 0 := by
  refine cq_cnt_0 fun j hj => ?_
  by_cases h0 : j = 0
  · simp [h0]
  · have := hT j (by omega) hj
    have w : p j ≠ n - 1 := by omega
    simp [w]
theorem cq_l_449 (hT : cq_T p n) (hn : n ≤ 16) (h1 : 1 ≤ n) (hE : ∀ k f, 1 ≤ k → k ≤ 16 → wL_law_449 post L xs J45 x1 x4 x5 x6 (nI n) x10 x11 x12 x13 kc ks (nI c) (nI l) (nI n) (lN (cq_t z)) (cq_P p) (cq_A (cq_cc p n)) (cq_A g) (cq_A m) (cq_A (cq_u p z)) (cq_A (cq_r z)) (cq_A (cq_h z)) (cq_G (cq_lv z) (cq_id z)) (cq_A (cq_cl z)) (cq_A (cq_cu z)) op (f + 1) (nI k) (nI n)) : ∀ d q f k, q + d = n → d < f → k ≤ q → ((∃ j, j < q ∧ cq_cc p n j = 0) → 1 ≤ k) → wL_law_449 post L xs J45 x1 x4 x5 x6 (nI n) x10 x11 x12 x13 kc ks (nI c) (nI l) (nI n) (lN (cq_t z)) (cq_P p) (cq_A (cq_cc p n)) (cq_A g) (cq_A m) (cq_A (cq_u p z)) (cq_A (cq_r z)) (cq_A (cq_h z)) (cq_G (cq_lv z) (cq_id z)) (cq_A (cq_cl z)) (cq_A (cq_cu z)) op f (nI k) (nI q) := by
  intro d
  induction d with
  | zero =>
    intro q f k hd hf hk hh
    obtain ⟨f, rfl⟩ : ∃ k, f = k + 1 := ⟨f - 1, by omega⟩
    have e : q = n := by omega
    subst e
    exact hE k f (hh ⟨q - 1, by omega, cq_last hT h1⟩) (by omega)
  | succ d ih =>
    intro q f k hd hf hk hh
    obtain ⟨f, rfl⟩ : ∃ k, f = k + 1 := ⟨f - 1, by omega⟩
    refine pk_le n q (fun h => by omega) (fun _ => Exists.intro (n + 1) (cq_l_462 hT hn (by omega) (fun e => ih (q + 1) f (k + 1) (by omega) (by omega) (by omega) (fun _ => by omega)) (fun e => ih (q + 1) f k (by omega) (by omega) (by omega) ?_) n 0 (n + 1) (by omega) (by omega)))
    rintro ⟨j, j1, j2⟩
    refine hh ⟨j, ?_, j2⟩
    by_cases w : j = q
    · subst w
      exact absurd j2 e
    · omega
theorem cq_l_534 (hn : n ≤ 16) {J521 : Int32 → Int32 → Int32 → Prop} {q j : Nat} {x17 : Int32} (hq : q < n) (hj : j < n) (hN : ∀ j w, j < n → J521 (nI j) w (nI (q + 1))) : ∀ d i f x19, i + d = n → d < f → wL_law_534 post L xs J45 J521 x1 x4 x5 x6 (nI n) x10 x11 x12 x13 x15 (nI j) x17 (nI q) kc ks (nI c) (nI l) (nI n) (lN (cq_t z)) (cq_P p) (cq_A (cq_cc p n)) (cq_A g) (cq_A m) (cq_A (cq_u p z)) (cq_A (cq_r z)) (cq_A (cq_h z)) (cq_G (cq_lv z) (cq_id z)) (cq_A (cq_cl z)) (cq_A (cq_cu z)) op f x19 (nI i) := by
  intro d
  induction d with
  | zero =>
    intro i f x19 hd hf
    obtain ⟨f, rfl⟩ : ∃ k, f = k + 1 := ⟨f - 1, by omega⟩
    exact pk_le n i (fun _ => br_c (fun _ => nm_r (nI_1 q) (hN j _ hj)) (fun _ => br_c (fun _ => nm_e (nm_r (nI_1 q) (hN q _ hq))) (fun _ => nm_e (nm_r (nI_1 q) (hN j _ hj))))) (fun h => by omega)
  | succ d ih =>
    intro i f x19 hd hf
    obtain ⟨f, rfl⟩ : ∃ k, f = k + 1 := ⟨f - 1, by omega⟩
    exact pk_le n i (fun h => by omega) (fun _ => cq_x_parentOf hn (by omega) (br_c (fun _ => nm_r (nI_1 i) (ih (i + 1) f 0 (by omega) (by omega))) (fun _ => nm_r (nI_1 i) (ih (i + 1) f x19 (by omega) (by omega)))))
theorem cq_l_521 (hn : n ≤ 16) (hE : ∀ j w f, j < n → wL_law_521 post L xs J45 x1 x4 x5 x6 (nI n) x10 x11 x12 x13 x15 kc ks (nI c) (nI l) (nI n) (lN (cq_t z)) (cq_P p) (cq_A (cq_cc p n)) (cq_A g) (cq_A m) (cq_A (cq_u p z)) (cq_A (cq_r z)) (cq_A (cq_h z)) (cq_G (cq_lv z) (cq_id z)) (cq_A (cq_cl z)) (cq_A (cq_cu z)) op (f + 1) (nI j) w (nI n)) : ∀ d q f j w, q + d = n → d < f → j < n → wL_law_521 post L xs J45 x1 x4 x5 x6 (nI n) x10 x11 x12 x13 x15 kc ks (nI c) (nI l) (nI n) (lN (cq_t z)) (cq_P p) (cq_A (cq_cc p n)) (cq_A g) (cq_A m) (cq_A (cq_u p z)) (cq_A (cq_r z)) (cq_A (cq_h z)) (cq_G (cq_lv z) (cq_id z)) (cq_A (cq_cl z)) (cq_A (cq_cu z)) op f (nI j) w (nI q) := by
  intro d
  induction d with
  | zero =>
    intro q f j w hd hf hj
    obtain ⟨f, rfl⟩ : ∃ k, f = k + 1 := ⟨f - 1, by omega⟩
    have e : q = n := by omega
    subst e
    exact hE j w f hj
  | succ d ih =>
    intro q f j w hd hf hj
    obtain ⟨f, rfl⟩ : ∃ k, f = k + 1 := ⟨f - 1, by omega⟩
    exact pk_le n q (fun h => by omega) (fun _ => Exists.intro (n + 1) (cq_l_534 hn (by omega) hj (fun j' w' hj' => ih (q + 1) f j' w' (by omega) (by omega) hj') n 0 (n + 1) 1 (by omega) (by omega)))
/-- what the next turn asks for -/
def cq_Nx (J45 : Int32 → Int32 → Int32 → Int32 → Int32 → Int32 → Int64 → (Nat → Int32) → (Nat → Int32) → (Nat → Int32) → (Nat → Int32) → (Nat → Int32) → (Nat → Int32) → (Nat → Int32) → (Nat → Int64) → (Nat → Int32) → (Nat → Int32) → (Nat → Int32) → Prop) (b c l i : Nat) : Prop := ∀ (n : Nat) (p g m : Nat → Nat) (z : cq_Z) (op : Nat → Int32) (x5 : Int32) (M : Nat), cq_In (b + 128) c l n p g m z → M + 1 = cq_t z → (x5 = 0 ∨ cq_sv l n p g z = none) → J45 (nI M) x5 (nI (i + 4)) (nI c) (nI l) (nI n) (lN (cq_t z)) (cq_P p) (cq_A (cq_cc p n)) (cq_A g) (cq_A m) (cq_A (cq_u p z)) (cq_A (cq_r z)) (cq_A (cq_h z)) (cq_G (cq_lv z) (cq_id z)) (cq_A (cq_cl z)) (cq_A (cq_cu z)) op
theorem cq_l_op (hI : cq_In b c l n p g m z) (hb : b < 2 ^ 28) (hM : M + 1 = cq_t z) {i : Nat} (hJ : cq_Nx J45 b c l i) (j : Nat) (hj : j < n) (w : Int32) (f : Nat) : wL_law_521 post L xs J45 (nI c) (nI M) 0 (nI i) (nI n) x10 x11 x12 x13 x15 kc ks (nI c) (nI l) (nI n) (lN (cq_t z)) (cq_P p) (cq_A (cq_cc p n)) (cq_A g) (cq_A m) (cq_A (cq_u p z)) (cq_A (cq_r z)) (cq_A (cq_h z)) (cq_G (cq_lv z) (cq_id z)) (cq_A (cq_cl z)) (cq_A (cq_cu z)) op (f + 1) (nI j) w (nI n) := by
  have hJJ := hI.1
  have hh := hI.1.1
  have ht := hI.2.1.1.2
  have hn := hh.2.2.2.2
  have e4 : nI i + 4 = nI (i + 4) := nI_add i 4
  have e1 : nI c / 2 + 1 = nI (c / 2 + 1) := by
    rw [show (2 : Int32) = nI 2 from rfl, pk_div (by omega) (by decide) (by decide), nI_1]
  have hK : ∀ z', cq_In (b + 128) c l n p g m z' → cq_t z' = cq_t z → ∀ op', J45 (nI M) 0 (nI (i + 4)) (nI c) (nI l) (nI n) (lN (cq_t z')) (cq_P p) (cq_A (cq_cc p n)) (cq_A g) (cq_A m) (cq_A (cq_u p z')) (cq_A (cq_r z')) (cq_A (cq_h z')) (cq_G (cq_lv z') (cq_id z')) (cq_A (cq_cl z')) (cq_A (cq_cu z')) op' := fun z' h e op' => hJ n p g m z' op' 0 M h (by omega) (Or.inl rfl)
  refine pk_le n n (fun _ => ⟨by decide, ?_⟩) (fun h => by omega)
  rw [e1]
  refine cq_l_mod (by omega) (by omega) (fun r hr => ?_)
  have e2 : nI c - nI r + 1 = nI (c - r + 1) := by rw [pk_sub (by omega), nI_1]
  rw [e2]
  refine cq_l_mod (by omega) (by omega) (fun s hs => nm_r (nI_add _ _) ?_)
  refine br_c (fun _ => br_c (fun _ => br_c (fun _ => ?_) (fun _ => br_c (fun _ => ?_) (fun _ => br_c (fun _ => ?_) (fun _ => br_c (fun _ => ?_) (fun _ => ?_))))) (fun _ => ?_)) (fun _ => ?_)
  · exact cq_x_schedule hI (by omega) (fun k z' op' h e hk => nm_r (nI_add _ _) (nm_r e4 (hJ n p g m z' op' 0 (M + k) (cq_In_up h (by omega)) (by omega) (Or.inl rfl))))
  · refine cq_x_used (j := 0) hn (by omega) (cq_x_pre hI (by omega) (fun k j' z' op' h e eu es hk hj' => cq_x_used (j := 0) hn (by omega) ?_))
    have hu : cq_u p z 0 ≤ 64 := cq_us_le _ _ _ _
    refine nm_r (e' := nI (M + (k + j'))) ?_ (nm_r e4 (hJ n p g m z' op' 1 (M + (k + j')) h (by omega) (Or.inr es)))
    rw [eu, pk_sub (by omega), nI_add, nI_add, show cq_u p z 0 + k - cq_u p z 0 = k by omega]
  · refine cq_l_mod (k := 2) (by decide) (by decide) (fun r2 _ => br_c (fun _ => ?_) (fun _ => ?_))
    · exact cq_l_mod (k := 8) (by decide) (by decide) (fun r3 _ => cq_x_complete hI (by omega) (fun r4 z' h e => nm_r e4 (hK z' (cq_In_up h (by omega)) e op)) _)
    · rw [nI_1]
      exact cq_l_mod (by omega) (by omega) (fun r3 _ => cq_x_complete hI (by omega) (fun r4 z' h e => nm_r e4 (hK z' (cq_In_up h (by omega)) e op)) _)
  · exact cq_l_mod (k := 4) (by decide) (by decide) (fun r2 _ => cq_x_cancel hI (by omega) (fun r4 z' h e => nm_r e4 (hK z' (cq_In_up h (by omega)) e op)) _ _)
  · exact cq_l_mod (by omega) (by omega) (fun r2 _ => cq_x_setCapacity hI (by omega) (fun r4 g' m' h => nm_r e4 (hJ n p g' m' z op 0 M (cq_In_up h (by omega)) hM (Or.inl rfl))) _ _ _)
  · exact cq_l_mod (k := 4) (by decide) (by decide) (fun r2 _ => cq_l_mod (k := 8) (by decide) (by decide) (fun r3 _ => cq_x_submit hI (by omega) (fun r4 z' h e => nm_r e4 (hK z' (cq_In_up h (by omega)) e op)) _ _ _))
  · exact cq_l_mod (by omega) (by omega) (fun r2 _ => cq_x_addQueue hI (by omega) (fun r4 n' p' g' m' h => nm_r e4 (hJ n' p' g' m' z op 0 M (cq_In_up h (by omega)) hM (Or.inl rfl))) _ _ _)
end
theorem cq_l_45 {c l L : Nat} {post : Int32 → Prop} {xs : Nat → Int32} {kc ks : Nat} (hL : L ≤ 260) (hp : post 1) : ∀ d i f n p g m z op x5 M, L ≤ i + d → d < f → i ≤ 264 → cq_In (128 * i) c l n p g m z → M + 1 = cq_t z → (x5 = 0 ∨ cq_sv l n p g z = none) → wL_law_45 post L xs (nI c) kc ks f (nI M) x5 (nI i) (nI c) (nI l) (nI n) (lN (cq_t z)) (cq_P p) (cq_A (cq_cc p n)) (cq_A g) (cq_A m) (cq_A (cq_u p z)) (cq_A (cq_r z)) (cq_A (cq_h z)) (cq_G (cq_lv z) (cq_id z)) (cq_A (cq_cl z)) (cq_A (cq_cu z)) op := by
  intro d
  induction d with
  | zero =>
    intro i f n p g m z op x5 M hd hf hi hI hM hx5
    obtain ⟨f, rfl⟩ : ∃ k, f = k + 1 := ⟨f - 1, by omega⟩
    have hh := hI.1.1
    have hn := hh.2.2.2.2
    have hm := hI.1.2.2.2.1 0
    have hu : cq_u p z 0 ≤ 64 := cq_us_le _ _ _ _
    have hum := hI.2.2.1.1 0 (by omega)
    unfold wL_law_45 wpX_queueCount
    dsimp only
    refine cq_x_maxCapacity (j := 0) hn (by omega) ?_
    refine pk_lt n 1 (fun h => by omega) (fun _ => pk_le n 16 (fun _ => cq_x_used (j := 0) hn (by omega) (pk_le (cq_u p z 0) (m 0) (fun _ => ?_) (fun h => by omega))) (fun h => by omega))
    exact Exists.intro (n + 1) (cq_l_94 hI (by omega) hM hx5 (fun f => pk_le n n (fun _ => pk_lt i L (fun h => by omega) (fun _ => hp)) (fun h => by omega)) n 0 (n + 1) (by omega) (by omega))
  | succ d ih =>
    intro i f n p g m z op x5 M hd hf hi hI hM hx5
    obtain ⟨f, rfl⟩ : ∃ k, f = k + 1 := ⟨f - 1, by omega⟩
    have hh := hI.1.1
    have hn := hh.2.2.2.2
    have hT := hI.1.2.1
    have hm := hI.1.2.2.2.1 0
    have hu : cq_u p z 0 ≤ 64 := cq_us_le _ _ _ _
    have hum := hI.2.2.1.1 0 (by omega)
    unfold wL_law_45 wpX_queueCount
    dsimp only
    refine cq_x_maxCapacity (j := 0) hn (by omega) ?_
    refine pk_lt n 1 (fun h => by omega) (fun _ => pk_le n 16 (fun _ => cq_x_used (j := 0) hn (by omega) (pk_le (cq_u p z 0) (m 0) (fun _ => ?_) (fun h => by omega))) (fun h => by omega))
    refine Exists.intro (n + 1) (cq_l_94 hI (by omega) hM hx5 (fun f' => pk_le n n (fun _ => pk_lt i L (fun hiL => ?_) (fun _ => hp)) (fun h => by omega)) n 0 (n + 1) (by omega) (by omega))
    refine cq_l_cell (by omega) (by omega) (fun r1 => cq_l_mod (k := 10) (by decide) (by decide) (fun r2 _ => ?_))
    rw [show nI i + 1 = nI (i + 1) from nI_1 i, show nI i + 2 = nI (i + 2) from nI_add i 2, show nI i + 3 = nI (i + 3) from nI_add i 3]
    refine cq_l_cell (by omega) (by omega) (fun r3 => cq_l_cell (by omega) (by omega) (fun r4 => cq_l_cell (by omega) (by omega) (fun r5 => ?_)))
    refine Exists.intro (n + 1) (cq_l_449 hT hn (by omega) (fun k f' hk1 hk2 => pk_le n n (fun _ => ?_) (fun h => by omega)) n 0 (n + 1) 0 (by omega) (by omega) (by omega) (fun h => by obtain ⟨j, hj, _⟩ := h; omega))
    refine cq_l_mod (by omega) (by omega) (fun r6 _ => Exists.intro (n + 1) (cq_l_521 hn (fun j w f'' hj => cq_l_op hI (by omega) hM ?_ j hj w f'') n 0 (n + 1) 0 0 (by omega) (by omega) (by omega)))
    intro n' p' g' m' z' op' x5' M' hI' hM' hx5'
    exact ih (i + 4) f n' p' g' m' z' op' x5' M' (by omega) (by omega) (by omega) (cq_In_up hI' (by omega)) hM' hx5'
end
section
theorem i_vc (xs : Nat → Int32) (L : Nat) (hL : L ≤ 260) : wpL_law (fun r => r = 1) L xs := by
  refine cq_l_cell (i := 0) (by omega) (by decide) (fun r1 => cq_l_mod (k := 24) (by decide) (by decide) (fun a ha => nm_r (nI_add 1 a) ?_))
  refine cq_l_cell (i := 1) (by omega) (by decide) (fun r2 => cq_l_mod (k := 6) (by decide) (by decide) (fun b hb => nm_r (nI_add 1 b) ?_))
  refine ⟨11, 416, by decide, by decide, ?_⟩
  obtain ⟨c, c1, c2, hc⟩ := cq_clamp (nI (1 + a))
  obtain ⟨l, l1, l2, hl⟩ := cq_clamp (nI (1 + b))
  have ec : c = 1 + a := by
    have h := hc (fun r => r = nI c) rfl
    have h2 := (h.1 (show nI 1 ≤ nI (1 + a) from nI_le (by omega) (by omega))).1 (show nI (1 + a) ≤ nI 64 from nI_le (by omega) (by decide))
    exact ((nI_eq (by omega) (by omega)).mp h2).symm
  have eP : upd (fun _ => 0) 0 (-1) = cq_P (fun _ => 0) := by
    funext j
    unfold upd cq_P
    by_cases w : j = 0
    · rw [if_pos w, if_pos w]
    · rw [if_neg w, if_neg w]
      rfl
  have eG : upd (fun _ => 0) 0 (nI c) = cq_A (cq_up (fun _ => 0) 0 c) := cq_A_up (fun _ => 0) 0 c
  have eC : cq_A (cq_cc (fun _ => 0) 1) = fun _ => 0 := by
    funext q
    rfl
  have u0 : ∀ q, cq_u (fun _ => 0) (1, fun _ => 0, fun _ => 0, fun _ => 0, fun _ => 0, fun _ => false) q = 0 := fun q => cq_cnt_0 (fun i _ => rfl)
  have eU : cq_A (cq_u (fun _ => 0) (1, fun _ => 0, fun _ => 0, fun _ => 0, fun _ => 0, fun _ => false)) = fun _ => 0 := by
    funext q
    exact congrArg nI (u0 q)
  have eH : cq_A (cq_h (1, fun _ => 0, fun _ => 0, fun _ => 0, fun _ => 0, fun _ => false)) = fun _ => 0 := by
    funext q
    exact congrArg nI (cq_cnt_0 (fun i _ => rfl))
  have hcX : ∀ post : Int32 → Prop, post (nI c) → wpX_clampToUnits post () (nI (1 + a)) := fun post h => hc post h
  have hlX : ∀ post : Int32 → Prop, post (nI l) → wpX_clampToUnits post () (nI (1 + b)) := fun post h => hl post h
  have hI : cq_In (128 * 2) c l 1 (fun _ => 0) (cq_up (fun _ => 0) 0 c) (cq_up (fun _ => 0) 0 c) (1, fun _ => 0, fun _ => 0, fun _ => 0, fun _ => 0, fun _ => false) := by
    refine ⟨⟨⟨c1, c2, l2, by omega, by omega⟩, fun q h1 h2 => by omega, fun q => ?_, fun q => ?_, cq_up_s _ _ _⟩, ⟨⟨by decide, by decide⟩, fun j => Nat.zero_le _, fun j _ => rfl, fun i hi => absurd hi (show ¬ (false = true) by decide)⟩, ⟨fun q _ => by rw [u0]; exact Nat.zero_le _, fun i hi => absurd hi (show ¬ (false = true) by decide), fun i j hi => absurd hi (show ¬ (false = true) by decide)⟩, ⟨fun q _ => Nat.le_refl _, cq_up_s _ _ _, fun q _ => Nat.zero_le _⟩⟩
    · show (if q = 0 then c else 0) ≤ 64
      split <;> omega
    · show (if q = 0 then c else 0) ≤ 64
      split <;> omega
  have key := cq_l_45 (post := fun r => r = 1) (xs := xs) (kc := 1 + 11) (ks := 15 + 416) hL rfl L 2 (L + 1) _ _ _ _ _ (fun _ => 0) 0 0 (by omega) (by omega) (by omega) hI rfl (Or.inl rfl)
  rw [eC, eU, eH] at key
  unfold wpX_init
  refine ⟨by decide, by decide, by decide, by decide, by decide, by decide, by decide, by decide, by decide, by decide, by decide, by decide, by decide, by decide, by decide, by decide, by decide, by decide, by decide, by decide, by decide, by decide, ?_⟩
  refine hcX _ (hlX _ (nm_r eP (nm_r eG (nm_r eG (Exists.intro (L + 1) ?_)))))
  rw [← ec]
  exact key
end
