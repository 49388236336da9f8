section
theorem pk_us {f : Nat → Int32} {k : Nat} {x : Int32} : upd f k x k = x := if_pos rfl
theorem pk_un {f : Nat → Int32} {k j : Nat} {x : Int32} (h : j ≠ k) : upd f k x j = f j := if_neg h
theorem pk_uLs {f : Nat → Int64} {k : Nat} {x : Int64} : vp_updL f k x k = x := if_pos rfl
theorem pk_uLn {f : Nat → Int64} {k j : Nat} {x : Int64} (h : j ≠ k) : vp_updL f k x j = f j := if_neg h
theorem pk_sub {a b : Nat} (h : b ≤ a) : nI a - nI b = nI (a - b) := by
  obtain ⟨c, rfl⟩ : ∃ c, a = c + b := ⟨a - b, by omega⟩
  rw [← nI_add, Int32.add_sub_cancel, Nat.add_sub_cancel]
theorem pk_m1 (n : Nat) : nI (n + 1) + (-1) = nI n := by
  rw [← nI_1, Int32.add_assoc, show (1 : Int32) + (-1) = 0 from rfl, Int32.add_zero]
theorem pk_mul (a b : Nat) : nI a * nI b = nI (a * b) := (Int32.ofNat_mul a b).symm
theorem pk_sub_toInt {a b : Nat} (ha : a < 2 ^ 30) (hb : b < 2 ^ 30) : (nI a - nI b).toInt = (a : Int) - b := by
  rw [Int32.toInt_sub, nI_toInt (by omega), nI_toInt (by omega)]
  exact Int.bmod_eq_of_le (by omega) (by omega)
theorem pk_sneg {a b : Nat} (hb : b < 2 ^ 30) (h : a < b) : nI a - nI b < 0 := by
  rw [Int32.lt_iff_toInt_lt, pk_sub_toInt (by omega) hb, show (0 : Int32).toInt = 0 from by decide]
  omega
theorem pk_ix (x : Int32) {n : Nat} (hn : n < 2 ^ 31) : x < 0 ∨ nI n ≤ x ∨ ∃ j : Nat, j < n ∧ x = nI j := by
  by_cases h : x < 0
  · exact Or.inl h
  · obtain ⟨j, hj, rfl⟩ := nI_of h
    by_cases h2 : j < n
    · exact Or.inr (Or.inr ⟨j, h2, rfl⟩)
    · exact Or.inr (Or.inl (nI_le (by omega) hj))
theorem pk_le {x y : Int32} {A B : Prop} (a b : Nat) (f : a ≤ b → A) (g : b < a → B) (hx : x = nI a := by rfl) (hy : y = nI b := by rfl) (ha : a < 2 ^ 31 := by omega) (hb : b < 2 ^ 31 := by omega) : (x ≤ y → A) ∧ (¬ x ≤ y → B) := by
  subst hx hy
  rw [nI_leI ha hb]
  exact ⟨f, fun z => g (by omega)⟩
theorem pk_lt {x y : Int32} {A B : Prop} (a b : Nat) (f : a < b → A) (g : b ≤ a → B) (hx : x = nI a := by rfl) (hy : y = nI b := by rfl) (ha : a < 2 ^ 31 := by omega) (hb : b < 2 ^ 31 := by omega) : (x < y → A) ∧ (¬ x < y → B) := by
  subst hx hy
  rw [nI_ltI ha hb]
  exact ⟨f, fun z => g (by omega)⟩
theorem pk_eq {x y : Int32} {A B : Prop} (a b : Nat) (f : a = b → A) (g : a ≠ b → B) (hx : x = nI a := by rfl) (hy : y = nI b := by rfl) (ha : a < 2 ^ 31 := by omega) (hb : b < 2 ^ 31 := by omega) : (x = y → A) ∧ (¬ x = y → B) := by
  subst hx hy
  rw [nI_eq ha hb]
  exact ⟨f, g⟩
theorem pk_in {x : Int32} (n N : Nat) (h : n < N) (hx : x = nI n := by rfl) (hN : N < 2 ^ 31 := by omega) : vp_in x N := by
  subst hx
  exact vp_in_nI h hN
theorem pk_cl {x : Int32} (n : Nat) (hx : x = nI n := by rfl) (h : n < 2 ^ 31 := by omega) : x.toNatClampNeg = n := by
  subst hx
  exact nI_clamp h
theorem sb_m1 {p : Nat} (h : 0 < p) : nI p + (-1) = nI (p - 1) := by
  obtain ⟨q, rfl⟩ : ∃ q, p = q + 1 := ⟨p - 1, by omega⟩
  exact pk_m1 q
end
section
/-! counts, searches, folds: no program here -/
def cq_bI (b : Bool) : Int32 := match b with
  | true => 1
  | false => 0
def cq_oI (o : Option Nat) : Int32 := match o with
  | none => -1
  | some i => nI i
def cq_cnt (f : Nat → Bool) : Nat → Nat
  | 0 => 0
  | n + 1 => cq_cnt f n + (if f n then 1 else 0)
theorem cq_cnt_s (f : Nat → Bool) (n : Nat) : cq_cnt f (n + 1) = cq_cnt f n + (if f n then 1 else 0) := rfl
theorem cq_cnt_le (f : Nat → Bool) (n : Nat) : cq_cnt f n ≤ n := by
  induction n with
  | zero => exact Nat.le_refl 0
  | succ n ih =>
    rw [cq_cnt_s]
    split <;> omega
theorem cq_cnt_congr {f f' : Nat → Bool} {n : Nat} (h : ∀ i, i < n → f' i = f i) : cq_cnt f' n = cq_cnt f n := by
  induction n with
  | zero => rfl
  | succ n ih =>
    rw [cq_cnt_s, cq_cnt_s, ih (fun i hi => h i (by omega)), h n (by omega)]
theorem cq_cnt_set {f f' : Nat → Bool} {s n : Nat} (h : ∀ i, i ≠ s → f' i = f i) (hs : f s = false) (hn : s < n) : cq_cnt f' n = cq_cnt f n + (if f' s then 1 else 0) := by
  induction n with
  | zero => omega
  | succ n ih =>
    rw [cq_cnt_s, cq_cnt_s]
    by_cases e : s = n
    · subst e
      rw [cq_cnt_congr (f := f) (fun i hi => h i (by omega)), hs]
      simp
    · rw [ih (by omega), h n (by omega)]
      omega
theorem cq_cnt_0 {f : Nat → Bool} {n : Nat} (h : ∀ i, i < n → f i = false) : cq_cnt f n = 0 := by
  induction n with
  | zero => rfl
  | succ n ih =>
    rw [cq_cnt_s, ih (fun i hi => h i (by omega)), h n (by omega)]
    rfl
theorem cq_cnt_pos {f : Nat → Bool} {i n : Nat} (hi : i < n) (h : f i = true) : 0 < cq_cnt f n := by
  induction n with
  | zero => omega
  | succ n ih =>
    rw [cq_cnt_s]
    by_cases e : i = n
    · subst e
      rw [h]
      simp
    · have := ih (by omega)
      omega
theorem cq_cnt_ex {f : Nat → Bool} {n : Nat} (h : 0 < cq_cnt f n) : ∃ i, i < n ∧ f i = true := by
  induction n with
  | zero => exact absurd h (Nat.lt_irrefl 0)
  | succ n ih =>
    rw [cq_cnt_s] at h
    by_cases e : f n = true
    · exact ⟨n, by omega, e⟩
    · rw [if_neg e] at h
      obtain ⟨i, hi, hf⟩ := ih (by omega)
      exact ⟨i, by omega, hf⟩
theorem cq_cnt_room {f : Nat → Bool} {n : Nat} (h : cq_cnt f n < n) : ∃ i, i < n ∧ f i = false := by
  induction n with
  | zero => omega
  | succ n ih =>
    rw [cq_cnt_s] at h
    by_cases e : f n = true
    · rw [if_pos e] at h
      obtain ⟨i, hi, hf⟩ := ih (by omega)
      exact ⟨i, by omega, hf⟩
    · exact ⟨n, by omega, by simpa using e⟩
def cq_any (f : Nat → Bool) : Nat → Bool
  | 0 => false
  | n + 1 => cq_any f n || f n
theorem cq_any_iff {f : Nat → Bool} {n : Nat} : cq_any f n = true ↔ ∃ i, i < n ∧ f i = true := by
  induction n with
  | zero =>
    constructor
    · intro h
      exact absurd h (by simp [cq_any])
    · rintro ⟨i, hi, _⟩
      omega
  | succ n ih =>
    show (cq_any f n || f n) = true ↔ _
    rw [Bool.or_eq_true, ih]
    constructor
    · rintro (⟨i, hi, hf⟩ | hf)
      · exact ⟨i, by omega, hf⟩
      · exact ⟨n, by omega, hf⟩
    · rintro ⟨i, hi, hf⟩
      by_cases e : i = n
      · subst e
        exact Or.inr hf
      · exact Or.inl ⟨i, by omega, hf⟩
theorem cq_any_f {f : Nat → Bool} {n : Nat} (h : ∀ i, i < n → f i = false) : cq_any f n = false := by
  cases e : cq_any f n with
  | false => rfl
  | true =>
    obtain ⟨i, hi, hf⟩ := cq_any_iff.mp e
    rw [h i hi] at hf
    exact absurd hf (by decide)
/-- the first i' in [i, i + d) with f -/
def cq_fnd (f : Nat → Bool) : Nat → Nat → Option Nat
  | _, 0 => none
  | i, d + 1 => if f i then some i else cq_fnd f (i + 1) d
theorem cq_fnd_s (f : Nat → Bool) (i d : Nat) : cq_fnd f i (d + 1) = if f i then some i else cq_fnd f (i + 1) d := rfl
theorem cq_fnd_some {f : Nat → Bool} : ∀ {d i j : Nat}, cq_fnd f i d = some j → f j = true ∧ i ≤ j ∧ j < i + d := by
  intro d
  induction d with
  | zero =>
    intro i j h
    exact absurd h (by simp [cq_fnd])
  | succ d ih =>
    intro i j h
    rw [cq_fnd_s] at h
    by_cases e : f i = true
    · rw [if_pos e] at h
      cases h
      exact ⟨e, by omega, by omega⟩
    · rw [if_neg e] at h
      obtain ⟨a, b, c⟩ := ih h
      exact ⟨a, by omega, by omega⟩
theorem cq_fnd_none {f : Nat → Bool} : ∀ {d i : Nat}, cq_fnd f i d = none → ∀ j, i ≤ j → j < i + d → f j = false := by
  intro d
  induction d with
  | zero =>
    intro i _ j h1 h2
    omega
  | succ d ih =>
    intro i h j h1 h2
    rw [cq_fnd_s] at h
    by_cases e : f i = true
    · rw [if_pos e] at h
      exact absurd h (by simp)
    · rw [if_neg e] at h
      by_cases e2 : j = i
      · subst e2
        simpa using e
      · exact ih h j (by omega) (by omega)
/-- the scan that keeps its first best -/
def cq_fo (e : Nat → Bool) (b : Nat → Nat → Bool) : Nat → Option Nat
  | 0 => none
  | i + 1 => match cq_fo e b i with
    | none => if e i then some i else none
    | some j => if e i && b i j then some i else some j
theorem cq_fo_sn {e : Nat → Bool} {b : Nat → Nat → Bool} {i : Nat} (h : cq_fo e b i = none) : cq_fo e b (i + 1) = if e i then some i else none := by
  simp only [cq_fo, h]
theorem cq_fo_ss {e : Nat → Bool} {b : Nat → Nat → Bool} {i j : Nat} (h : cq_fo e b i = some j) : cq_fo e b (i + 1) = if e i && b i j then some i else some j := by
  simp only [cq_fo, h]
theorem cq_fo_k {e : Nat → Bool} {b : Nat → Nat → Bool} {i : Nat} (h : e i = false) : cq_fo e b (i + 1) = cq_fo e b i := by
  cases hf : cq_fo e b i with
  | none => rw [cq_fo_sn hf, h]; rfl
  | some j => rw [cq_fo_ss hf, h]; rfl
theorem cq_fo_lt {e : Nat → Bool} {b : Nat → Nat → Bool} : ∀ {i j : Nat}, cq_fo e b i = some j → j < i ∧ e j = true := by
  intro i
  induction i with
  | zero =>
    intro j h
    exact absurd h (by simp [cq_fo])
  | succ i ih =>
    intro j h
    cases hf : cq_fo e b i with
    | none =>
      rw [cq_fo_sn hf] at h
      by_cases z : e i = true
      · rw [if_pos z] at h
        cases h
        exact ⟨by omega, z⟩
      · rw [if_neg z] at h
        exact absurd h (by simp)
    | some k =>
      rw [cq_fo_ss hf] at h
      by_cases z : (e i && b i k) = true
      · rw [if_pos z] at h
        cases h
        rw [Bool.and_eq_true] at z
        exact ⟨by omega, z.1⟩
      · rw [if_neg z] at h
        cases h
        have := ih hf
        exact ⟨by omega, this.2⟩
theorem cq_fo_none {e : Nat → Bool} {b : Nat → Nat → Bool} : ∀ {i : Nat}, cq_fo e b i = none → ∀ j, j < i → e j = false := by
  intro i
  induction i with
  | zero =>
    intro _ j h
    omega
  | succ i ih =>
    intro h j hj
    cases hf : cq_fo e b i with
    | none =>
      rw [cq_fo_sn hf] at h
      by_cases z : e i = true
      · rw [if_pos z] at h
        exact absurd h (by simp)
      · by_cases q : j = i
        · subst q
          simpa using z
        · exact ih hf j (by omega)
    | some k =>
      rw [cq_fo_ss hf] at h
      by_cases z : (e i && b i k) = true
      · rw [if_pos z] at h
        exact absurd h (by simp)
      · rw [if_neg z] at h
        exact absurd h (by simp)
theorem cq_fo_min {e : Nat → Bool} {b : Nat → Nat → Bool} (ha : ∀ x y, b x y = true → b y x = false) (ht : ∀ x y z, b x y = false → b y z = false → b x z = false) : ∀ {i j : Nat}, cq_fo e b i = some j → (∀ o, o < i → e o = true → b o j = false) ∧ (∀ o, o < j → e o = true → b j o = true) := by
  have hr : ∀ x, b x x = false := by
    intro x
    cases h : b x x with
    | false => rfl
    | true => exact h.symm.trans (ha x x h)
  intro i
  induction i with
  | zero =>
    intro j h
    exact absurd h (by simp [cq_fo])
  | succ i ih =>
    intro j h
    cases hf : cq_fo e b i with
    | none =>
      have hn := cq_fo_none hf
      rw [cq_fo_sn hf] at h
      by_cases z : e i = true
      · rw [if_pos z] at h
        cases h
        refine ⟨fun o ho eo => ?_, fun o ho eo => ?_⟩
        · by_cases q : o = i
          · subst q
            exact hr _
          · rw [hn o (by omega)] at eo
            exact absurd eo (by decide)
        · rw [hn o ho] at eo
          exact absurd eo (by decide)
      · rw [if_neg z] at h
        exact absurd h (by simp)
    | some k =>
      obtain ⟨h1, h2⟩ := ih hf
      rw [cq_fo_ss hf] at h
      by_cases z : (e i && b i k) = true
      · rw [if_pos z] at h
        cases h
        rw [Bool.and_eq_true] at z
        refine ⟨fun o ho eo => ?_, fun o ho eo => ?_⟩
        · by_cases q : o = i
          · subst q
            exact hr _
          · cases w : b o i with
            | false => rfl
            | true =>
              have := ht i o k (ha o i w) (h1 o (by omega) eo)
              rw [this] at z
              exact absurd z.2 (by decide)
        · cases w : b i o with
          | true => rfl
          | false =>
            have := ht i o k w (h1 o ho eo)
            rw [this] at z
            exact absurd z.2 (by decide)
      · rw [if_neg z] at h
        cases h
        refine ⟨fun o ho eo => ?_, h2⟩
        by_cases q : o = i
        · subst q
          rw [eo, Bool.true_and] at z
          simpa using z
        · exact h1 o (by omega) eo
end
section
/-! the tree: a parent has a smaller number -/
def cq_T (p : Nat → Nat) (n : Nat) : Prop := ∀ q, 1 ≤ q → q < n → p q < q
/-- does some queue on the way from x up to the root satisfy s -/
def cq_pf (p : Nat → Nat) (s : Nat → Bool) : Nat → Nat → Bool
  | 0, _ => false
  | f + 1, x => s x || (!(x == 0) && cq_pf p s f (p x))
theorem cq_pf_s (p : Nat → Nat) (s : Nat → Bool) (f x : Nat) : cq_pf p s (f + 1) x = (s x || (!(x == 0) && cq_pf p s f (p x))) := rfl
def cq_ex (p : Nat → Nat) (s : Nat → Bool) (x : Nat) : Bool := cq_pf p s (x + 1) x
def cq_un (p : Nat → Nat) (x a : Nat) : Bool := cq_ex p (fun y => y == a) x
theorem cq_pf_st {p : Nat → Nat} {n : Nat} (hT : cq_T p n) (s : Nat → Bool) : ∀ f f' x, x < f → x < f' → x < n → cq_pf p s f x = cq_pf p s f' x := by
  intro f
  induction f with
  | zero =>
    intro f' x h
    omega
  | succ f ih =>
    intro f' x h h' hn
    cases f' with
    | zero => omega
    | succ f' =>
      rw [cq_pf_s, cq_pf_s]
      by_cases e : x = 0
      · subst e
        rfl
      · have := hT x (by omega) hn
        rw [ih f' (p x) (by omega) (by omega) (by omega)]
theorem cq_ex_0 (p : Nat → Nat) (s : Nat → Bool) : cq_ex p s 0 = s 0 := by
  unfold cq_ex
  rw [cq_pf_s]
  simp
theorem cq_ex_p {p : Nat → Nat} {n : Nat} (hT : cq_T p n) (s : Nat → Bool) {x : Nat} (h0 : x ≠ 0) (hx : x < n) : cq_ex p s x = (s x || cq_ex p s (p x)) := by
  have := hT x (by omega) hx
  unfold cq_ex
  rw [cq_pf_s, cq_pf_st hT s x (p x + 1) (p x) (by omega) (by omega) (by omega)]
  have e : (x == 0) = false := by simpa using h0
  rw [e]
  rfl
theorem cq_ex_st {p : Nat → Nat} {n : Nat} (hT : cq_T p n) {s : Nat → Bool} {x : Nat} (hx : x < n) (h : s x = true) : cq_ex p s x = true := by
  by_cases e : x = 0
  · subst e
    rw [cq_ex_0]
    exact h
  · rw [cq_ex_p hT s e hx, h]
    rfl
theorem cq_pf_congr {p p' : Nat → Nat} {n : Nat} (hT : cq_T p n) (he : ∀ q, q < n → p' q = p q) {s s' : Nat → Bool} (hs : ∀ q, q < n → s' q = s q) : ∀ f x, x < n → cq_pf p' s' f x = cq_pf p s f x := by
  intro f
  induction f with
  | zero =>
    intro x _
    rfl
  | succ f ih =>
    intro x hx
    rw [cq_pf_s, cq_pf_s, he x hx, hs x hx]
    by_cases e : x = 0
    · subst e
      rfl
    · have := hT x (by omega) hx
      rw [ih (p x) (by omega)]
theorem cq_un_congr {p p' : Nat → Nat} {n : Nat} (hT : cq_T p n) (he : ∀ q, q < n → p' q = p q) {x a : Nat} (hx : x < n) : cq_un p' x a = cq_un p x a :=
  cq_pf_congr hT he (fun _ _ => rfl) _ x hx
theorem cq_un_self (p : Nat → Nat) (x : Nat) : cq_un p x x = true := by
  unfold cq_un cq_ex
  rw [cq_pf_s]
  simp
theorem cq_un_00 (p : Nat → Nat) (a : Nat) : cq_un p 0 a = (0 == a) := cq_ex_0 p _
theorem cq_un_p {p : Nat → Nat} {n : Nat} (hT : cq_T p n) {x a : Nat} (h0 : x ≠ 0) (hx : x < n) : cq_un p x a = ((x == a) || cq_un p (p x) a) := cq_ex_p hT _ h0 hx
theorem cq_un_ne {p : Nat → Nat} {n : Nat} (hT : cq_T p n) {x a : Nat} (h0 : x ≠ 0) (hx : x < n) (ha : x ≠ a) : cq_un p x a = cq_un p (p x) a := by
  rw [cq_un_p hT h0 hx]
  have e : (x == a) = false := by simpa using ha
  rw [e]
  rfl
theorem cq_un_le {p : Nat → Nat} {n : Nat} (hT : cq_T p n) : ∀ d x a, x < d → x < n → cq_un p x a = true → a ≤ x := by
  intro d
  induction d with
  | zero =>
    intro x a h
    omega
  | succ d ih =>
    intro x a hd hx h
    by_cases e : x = 0
    · subst e
      rw [cq_un_00] at h
      have : 0 = a := by simpa using h
      omega
    · have hp := hT x (by omega) hx
      by_cases q : x = a
      · omega
      · rw [cq_un_ne hT e hx q] at h
        have := ih (p x) a (by omega) (by omega) h
        omega
theorem cq_un_gt {p : Nat → Nat} {n : Nat} (hT : cq_T p n) {x a : Nat} (hx : x < n) (ha : x < a) : cq_un p x a = false := by
  cases h : cq_un p x a with
  | false => rfl
  | true =>
    have := cq_un_le hT (x + 1) x a (by omega) hx h
    omega
theorem cq_un_rt {p : Nat → Nat} {n : Nat} (hT : cq_T p n) : ∀ d x, x < d → x < n → cq_un p x 0 = true := by
  intro d
  induction d with
  | zero =>
    intro x h
    omega
  | succ d ih =>
    intro x hd hx
    by_cases e : x = 0
    · subst e
      exact cq_un_self p 0
    · have hp := hT x (by omega) hx
      rw [cq_un_ne hT e hx e]
      exact ih (p x) (by omega) (by omega)
theorem cq_un_tr {p : Nat → Nat} {n : Nat} (hT : cq_T p n) {j : Nat} (hj : j ≠ 0) : ∀ d x, x < d → x < n → cq_un p x j = true → cq_un p x (p j) = true := by
  intro d
  induction d with
  | zero =>
    intro x h
    omega
  | succ d ih =>
    intro x hd hx h
    by_cases e : x = 0
    · subst e
      rw [cq_un_00] at h
      have : 0 = j := by simpa using h
      omega
    · have hp := hT x (by omega) hx
      by_cases q : x = j
      · subst q
        rw [cq_un_p hT e hx, cq_un_self]
        simp
      · rw [cq_un_ne hT e hx q] at h
        rw [cq_un_p hT e hx, ih (p x) (by omega) (by omega) h]
        simp
theorem cq_un_ch {p : Nat → Nat} {n : Nat} (hT : cq_T p n) {q : Nat} : ∀ d x, x < d → x < n → cq_un p x q = true → x ≠ q → ∃ j, j ≠ 0 ∧ j < n ∧ p j = q ∧ cq_un p x j = true := by
  intro d
  induction d with
  | zero =>
    intro x h
    omega
  | succ d ih =>
    intro x hd hx h hq
    by_cases e : x = 0
    · subst e
      rw [cq_un_00] at h
      have : 0 = q := by simpa using h
      omega
    · have hp := hT x (by omega) hx
      rw [cq_un_ne hT e hx hq] at h
      by_cases w : p x = q
      · exact ⟨x, e, hx, w, cq_un_self p x⟩
      · obtain ⟨j, a, b, c, f⟩ := ih (p x) (by omega) (by omega) h w
        refine ⟨j, a, b, c, ?_⟩
        rw [cq_un_p hT e hx, f]
        simp
/-! what the arrays hold -/
def cq_cc (p : Nat → Nat) (n q : Nat) : Nat := cq_cnt (fun j => !(j == 0) && (p j == q)) n
def cq_us (p cl : Nat → Nat) (lv : Nat → Bool) (q : Nat) : Nat := cq_cnt (fun i => lv i && cq_un p (cl i) q) 64
def cq_hs (cl cu : Nat → Nat) (lv : Nat → Bool) (j : Nat) : Nat := cq_cnt (fun i => lv i && (cl i * 4 + cu i == j)) 64
def cq_cs (p g : Nat → Nat) (q : Nat) : Nat → Nat
  | 0 => 0
  | j + 1 => cq_cs p g q j + (if !(j == 0) && (p j == q) then g j else 0)
def cq_ck (p g : Nat → Nat) (q s : Nat) : Nat → Nat
  | 0 => 0
  | j + 1 => cq_ck p g q s j + (if !(j == 0) && (p j == q) && !(j == s) then g j else 0)
def cq_E (r h : Nat → Nat) (l x : Nat) : Nat → Nat
  | 0 => 0
  | k + 1 => cq_E r h l x k + min (r (x * 4 + k)) (l - h (x * 4 + k))
def cq_rm (p m u : Nat → Nat) (x : Nat) : Bool := !(cq_ex p (fun y => decide (m y ≤ u y)) x)
def cq_el (p m u r h : Nat → Nat) (l n x : Nat) : Bool := decide (cq_cc p n x = 0) && decide (0 < cq_E r h l x 4) && cq_rm p m u x
def cq_op (p m u r h : Nat → Nat) (l n q : Nat) : Bool := cq_any (fun x => cq_un p x q && cq_el p m u r h l n x) n
def cq_lt (g u : Nat → Nat) (a b : Nat) : Bool := if 0 < g a then (if 0 < g b then decide (u a * g b < u b * g a) else true) else (if 0 < g b then false else decide (u a < u b))
theorem cq_lt_as (g u : Nat → Nat) (x y : Nat) (h : cq_lt g u x y = true) : cq_lt g u y x = false := by
  unfold cq_lt at h ⊢
  by_cases hx : 0 < g x <;> by_cases hy : 0 < g y <;> simp [hx, hy] at h ⊢ <;> omega
theorem cq_lt_nt (g u : Nat → Nat) (x y z : Nat) (h : cq_lt g u x y = false) (h' : cq_lt g u y z = false) : cq_lt g u x z = false := by
  unfold cq_lt at h h' ⊢
  by_cases hx : 0 < g x <;> by_cases hy : 0 < g y <;> by_cases hz : 0 < g z <;> simp [hx, hy, hz] at h h' ⊢
  · have a1 : u y * g x * g z ≤ u x * g y * g z := Nat.mul_le_mul_right _ h
    have a2 : u z * g y * g x ≤ u y * g z * g x := Nat.mul_le_mul_right _ h'
    have a3 : u z * g x * g y ≤ u x * g z * g y := by
      have b1 : u z * g x * g y = u z * g y * g x := by rw [Nat.mul_assoc, Nat.mul_assoc, Nat.mul_comm (g x)]
      have b2 : u y * g z * g x = u y * g x * g z := by rw [Nat.mul_assoc, Nat.mul_assoc, Nat.mul_comm (g z)]
      have b3 : u x * g z * g y = u x * g y * g z := by rw [Nat.mul_assoc, Nat.mul_assoc, Nat.mul_comm (g z)]
      omega
    exact Nat.le_of_mul_le_mul_right a3 hy
  · omega
theorem cq_cc_0 {p : Nat → Nat} {n q : Nat} (h : cq_cc p n q = 0) {j : Nat} (h0 : j ≠ 0) (hj : j < n) : p j ≠ q := by
  intro e
  have : 0 < cq_cc p n q := cq_cnt_pos hj (by simp [h0, e])
  omega
theorem cq_cc_p {p : Nat → Nat} {n q : Nat} (h : cq_cc p n q ≠ 0) : ∃ j, j ≠ 0 ∧ j < n ∧ p j = q := by
  obtain ⟨j, hj, e⟩ := cq_cnt_ex (f := fun j => !(j == 0) && (p j == q)) (n := n) (Nat.pos_of_ne_zero h)
  have e' : j ≠ 0 ∧ p j = q := by simpa using e
  exact ⟨j, e'.1, hj, e'.2⟩
theorem cq_el_cc {p m u r h : Nat → Nat} {l n x : Nat} (e : cq_el p m u r h l n x = true) : cq_cc p n x = 0 ∧ 0 < cq_E r h l x 4 ∧ cq_rm p m u x = true := by
  unfold cq_el at e
  simp only [Bool.and_eq_true, decide_eq_true_eq] at e
  exact ⟨e.1.1, e.1.2, e.2⟩
/-- a leaf is open if it is eligible -/
theorem cq_op_leaf {p m u r h : Nat → Nat} {l n q : Nat} (hT : cq_T p n) (hq : q < n) (hc : cq_cc p n q = 0) : cq_op p m u r h l n q = cq_el p m u r h l n q := by
  cases e : cq_el p m u r h l n q with
  | true => exact cq_any_iff.mpr ⟨q, hq, by simp [cq_un_self, e]⟩
  | false =>
    refine cq_any_f fun x hx => ?_
    show (cq_un p x q && cq_el p m u r h l n x) = false
    by_cases w : x = q
    · subst w
      rw [e, Bool.and_false]
    · cases z : cq_un p x q with
      | false => rfl
      | true =>
        obtain ⟨j, a, b, c, _⟩ := cq_un_ch hT (x + 1) x (by omega) hx z w
        exact absurd c (cq_cc_0 hc a b)
/-- an inner queue is open if a child of it is -/
theorem cq_op_in {p m u r h : Nat → Nat} {l n q : Nat} (hT : cq_T p n) (hc : cq_cc p n q ≠ 0) : cq_op p m u r h l n q = true ↔ ∃ j, j ≠ 0 ∧ j < n ∧ p j = q ∧ cq_op p m u r h l n j = true := by
  constructor
  · intro e
    obtain ⟨x, hx, hh⟩ := cq_any_iff.mp e
    simp only [Bool.and_eq_true] at hh
    have w : x ≠ q := by
      intro w
      subst w
      exact hc (cq_el_cc hh.2).1
    obtain ⟨j, a, b, c, d⟩ := cq_un_ch hT (x + 1) x (by omega) hx hh.1 w
    exact ⟨j, a, b, c, cq_any_iff.mpr ⟨x, hx, by simp [d, hh.2]⟩⟩
  · rintro ⟨j, a, b, c, d⟩
    obtain ⟨x, hx, hh⟩ := cq_any_iff.mp d
    simp only [Bool.and_eq_true] at hh
    refine cq_any_iff.mpr ⟨x, hx, ?_⟩
    have := cq_un_tr hT a (x + 1) x (by omega) hx hh.1
    rw [c] at this
    simp [this, hh.2]
theorem cq_us_le (p cl : Nat → Nat) (lv : Nat → Bool) (q : Nat) : cq_us p cl lv q ≤ 64 := cq_cnt_le _ _
theorem cq_hs_le (cl cu : Nat → Nat) (lv : Nat → Bool) (j : Nat) : cq_hs cl cu lv j ≤ 64 := cq_cnt_le _ _
theorem cq_cc_le (p : Nat → Nat) (n q : Nat) : cq_cc p n q ≤ n := cq_cnt_le _ _
theorem cq_cs_le {p g : Nat → Nat} (hg : ∀ q, g q ≤ 64) (q n : Nat) : cq_cs p g q n ≤ 64 * n := by
  induction n with
  | zero => exact Nat.le_refl 0
  | succ n ih =>
    have := hg n
    show cq_cs p g q n + _ ≤ _
    split <;> omega
theorem cq_ck_le {p g : Nat → Nat} (hg : ∀ q, g q ≤ 64) (q s n : Nat) : cq_ck p g q s n ≤ 64 * n := by
  induction n with
  | zero => exact Nat.le_refl 0
  | succ n ih =>
    have := hg n
    show cq_ck p g q s n + _ ≤ _
    split <;> omega
theorem cq_ck_lo {p g : Nat → Nat} {q s n : Nat} (h : n ≤ s) : cq_ck p g q s n = cq_cs p g q n := by
  induction n with
  | zero => rfl
  | succ n ih =>
    show cq_ck p g q s n + _ = cq_cs p g q n + _
    have e : (n == s) = false := by simp; omega
    rw [ih (by omega), e, Bool.not_false, Bool.and_true]
theorem cq_ck_hi {p g : Nat → Nat} {q s n : Nat} (h : s < n) (h0 : s ≠ 0) (hp : p s = q) : cq_cs p g q n = cq_ck p g q s n + g s := by
  induction n with
  | zero => omega
  | succ n ih =>
    show cq_cs p g q n + _ = cq_ck p g q s n + _ + g s
    by_cases e : s = n
    · subst e
      rw [cq_ck_lo (Nat.le_refl s)]
      simp [h0, hp]
    · have e' : (n == s) = false := by simp; omega
      rw [ih (by omega), e', Bool.not_false, Bool.and_true]
      omega
theorem cq_E_s (r h : Nat → Nat) (l x k : Nat) : cq_E r h l x (k + 1) = cq_E r h l x k + min (r (x * 4 + k)) (l - h (x * 4 + k)) := rfl
theorem cq_E_le (r h : Nat → Nat) (l x k : Nat) : cq_E r h l x k ≤ l * k := by
  induction k with
  | zero => exact Nat.zero_le _
  | succ k ih =>
    rw [cq_E_s, Nat.mul_succ l k]
    have : min (r (x * 4 + k)) (l - h (x * 4 + k)) ≤ l := Nat.le_trans (Nat.min_le_right _ _) (Nat.sub_le _ _)
    omega
theorem cq_E_ex {r h : Nat → Nat} {l x k : Nat} (e : 0 < cq_E r h l x k) : ∃ j, j < k ∧ 0 < r (x * 4 + j) ∧ h (x * 4 + j) < l := by
  induction k with
  | zero => exact absurd e (by simp [cq_E])
  | succ k ih =>
    have e' : 0 < cq_E r h l x k + min (r (x * 4 + k)) (l - h (x * 4 + k)) := e
    by_cases z : 0 < cq_E r h l x k
    · obtain ⟨j, a, b⟩ := ih z
      exact ⟨j, by omega, b⟩
    · exact ⟨k, by omega, by omega, by omega⟩
end
section
/-! one pure state behind both sides -/
def cq_up (f : Nat → Nat) (i x : Nat) : Nat → Nat := fun j => if j = i then x else f j
def cq_ub (f : Nat → Bool) (i : Nat) (x : Bool) : Nat → Bool := fun j => if j = i then x else f j
theorem cq_up_s (f : Nat → Nat) (i x : Nat) : cq_up f i x i = x := if_pos rfl
theorem cq_up_n {f : Nat → Nat} {i x j : Nat} (h : j ≠ i) : cq_up f i x j = f j := if_neg h
theorem cq_ub_s (f : Nat → Bool) (i : Nat) (x : Bool) : cq_ub f i x i = x := if_pos rfl
theorem cq_ub_n {f : Nat → Bool} {i : Nat} {x : Bool} {j : Nat} (h : j ≠ i) : cq_ub f i x j = f j := if_neg h
def cq_A (f : Nat → Nat) : Nat → Int32 := fun j => nI (f j)
def cq_P (p : Nat → Nat) : Nat → Int32 := fun q => if q = 0 then (-1) else nI (p q)
def cq_V (lv : Nat → Bool) : Nat → Int32 := fun i => cq_bI (lv i)
def cq_G (lv : Nat → Bool) (id : Nat → Nat) : Nat → Int64 := fun i => if lv i then lN (id i) else 0
theorem cq_A_up (f : Nat → Nat) (i x : Nat) : upd (cq_A f) i (nI x) = cq_A (cq_up f i x) := by
  funext j
  unfold upd cq_A cq_up
  by_cases h : j = i
  · rw [if_pos h, if_pos h]
  · rw [if_neg h, if_neg h]
theorem cq_P_up (p : Nat → Nat) {i : Nat} (x : Nat) (h0 : i ≠ 0) : upd (cq_P p) i (nI x) = cq_P (cq_up p i x) := by
  funext j
  unfold upd cq_P cq_up
  by_cases h : j = i
  · rw [if_pos h, if_pos h, if_neg (by omega)]
  · rw [if_neg h, if_neg h]
theorem cq_V_up (lv : Nat → Bool) (i : Nat) (b : Bool) : upd (cq_V lv) i (cq_bI b) = cq_V (cq_ub lv i b) := by
  funext j
  unfold upd cq_V cq_ub
  by_cases h : j = i
  · rw [if_pos h, if_pos h]
  · rw [if_neg h, if_neg h]
theorem cq_G_up (lv : Nat → Bool) (id : Nat → Nat) (i x : Nat) : vp_updL (cq_G lv id) i (lN x) = cq_G (cq_ub lv i true) (cq_up id i x) := by
  funext j
  unfold vp_updL cq_G cq_ub cq_up
  by_cases h : j = i
  · rw [if_pos h, if_pos h, if_pos h]
    rfl
  · rw [if_neg h, if_neg h, if_neg h]
theorem cq_G_rm (lv : Nat → Bool) (id : Nat → Nat) (i : Nat) : vp_updL (cq_G lv id) i 0 = cq_G (cq_ub lv i false) id := by
  funext j
  unfold vp_updL cq_G cq_ub
  by_cases h : j = i
  · rw [if_pos h, if_pos h]
    rfl
  · rw [if_neg h, if_neg h]
theorem cq_P_0 (p : Nat → Nat) : cq_P p 0 = -1 := if_pos rfl
theorem cq_P_p {p : Nat → Nat} {q : Nat} (h : q ≠ 0) : cq_P p q = nI (p q) := if_neg h
theorem cq_G_t {lv : Nat → Bool} {id : Nat → Nat} {i : Nat} (h : lv i = true) : cq_G lv id i = lN (id i) := if_pos h
theorem cq_G_f {lv : Nat → Bool} {id : Nat → Nat} {i : Nat} (h : lv i = false) : cq_G lv id i = 0 := by
  unfold cq_G
  rw [h]
  rfl
theorem cq_V_t {lv : Nat → Bool} {i : Nat} (h : lv i = true) : cq_V lv i = 1 := by
  unfold cq_V
  rw [h]
  rfl
theorem cq_V_f {lv : Nat → Bool} {i : Nat} (h : lv i = false) : cq_V lv i = 0 := by
  unfold cq_V
  rw [h]
  rfl
/-- what stays while units are shared out -/
def cq_J (c l n : Nat) (p g m : Nat → Nat) : Prop := (1 ≤ c ∧ c ≤ 64 ∧ l ≤ 64 ∧ 1 ≤ n ∧ n ≤ 16) ∧ cq_T p n ∧ (∀ q, g q ≤ 64) ∧ (∀ q, m q ≤ 64) ∧ m 0 = c
/-- what changes then: the next id, requests, the slots' leaves, users, ids, and which slots live -/
abbrev cq_Z : Type := Nat × (Nat → Nat) × (Nat → Nat) × (Nat → Nat) × (Nat → Nat) × (Nat → Bool)
abbrev cq_t (z : cq_Z) : Nat := z.1
abbrev cq_r (z : cq_Z) : Nat → Nat := z.2.1
abbrev cq_cl (z : cq_Z) : Nat → Nat := z.2.2.1
abbrev cq_cu (z : cq_Z) : Nat → Nat := z.2.2.2.1
abbrev cq_id (z : cq_Z) : Nat → Nat := z.2.2.2.2.1
abbrev cq_lv (z : cq_Z) : Nat → Bool := z.2.2.2.2.2
def cq_D (T B n : Nat) (p : Nat → Nat) (z : cq_Z) : Prop := (1 ≤ cq_t z ∧ cq_t z ≤ T) ∧ (∀ j, cq_r z j ≤ B) ∧ (∀ j, 4 * n ≤ j → cq_r z j = 0) ∧ (∀ i, cq_lv z i = true → cq_cl z i < n ∧ cq_cu z i < 4 ∧ 1 ≤ cq_id z i ∧ cq_id z i < cq_t z ∧ cq_cc p n (cq_cl z i) = 0)
theorem cq_D_up {T T' B B' n : Nat} {p : Nat → Nat} {z : cq_Z} (h : cq_D T B n p z) (hT : T ≤ T') (hB : B ≤ B') : cq_D T' B' n p z :=
  ⟨⟨h.1.1, Nat.le_trans h.1.2 hT⟩, fun j => Nat.le_trans (h.2.1 j) hB, h.2.2.1, h.2.2.2⟩
def cq_put (z : cq_Z) (x y s : Nat) : cq_Z := (cq_t z + 1, cq_up (cq_r z) (x * 4 + y) (cq_r z (x * 4 + y) - 1), cq_up (cq_cl z) s x, cq_up (cq_cu z) s y, cq_up (cq_id z) s (cq_t z), cq_ub (cq_lv z) s true)
def cq_del (z : cq_Z) (s : Nat) : cq_Z := (cq_t z, cq_r z, cq_cl z, cq_cu z, cq_id z, cq_ub (cq_lv z) s false)
def cq_sr (z : cq_Z) (j x : Nat) : cq_Z := (cq_t z, cq_up (cq_r z) j x, cq_cl z, cq_cu z, cq_id z, cq_lv z)
def cq_rq (z : cq_Z) (v : Nat) : cq_Z := cq_sr (cq_del z v) (cq_cl z v * 4 + cq_cu z v) (cq_r z (cq_cl z v * 4 + cq_cu z v) + 1)
theorem cq_D_put {T B n : Nat} {p : Nat → Nat} {z : cq_Z} (h : cq_D T B n p z) {x y s : Nat} (hx : x < n) (hy : y < 4) (hc : cq_cc p n x = 0) : cq_D (T + 1) B n p (cq_put z x y s) := by
  obtain ⟨⟨h1, h2⟩, h3, h4, h5⟩ := h
  refine ⟨⟨show 1 ≤ cq_t z + 1 by omega, show cq_t z + 1 ≤ T + 1 by omega⟩, fun j => ?_, fun j hj => ?_, fun i hi => ?_⟩
  · show cq_up (cq_r z) (x * 4 + y) (cq_r z (x * 4 + y) - 1) j ≤ B
    unfold cq_up
    have a := h3 j
    have b := h3 (x * 4 + y)
    split <;> omega
  · show cq_up (cq_r z) (x * 4 + y) (cq_r z (x * 4 + y) - 1) j = 0
    rw [cq_up_n (by omega)]
    exact h4 j hj
  · have hi' : cq_ub (cq_lv z) s true i = true := hi
    show cq_up (cq_cl z) s x i < n ∧ cq_up (cq_cu z) s y i < 4 ∧ 1 ≤ cq_up (cq_id z) s (cq_t z) i ∧ cq_up (cq_id z) s (cq_t z) i < cq_t z + 1 ∧ cq_cc p n (cq_up (cq_cl z) s x i) = 0
    by_cases e : i = s
    · subst e
      rw [cq_up_s, cq_up_s, cq_up_s]
      exact ⟨hx, hy, h1, by omega, hc⟩
    · rw [cq_ub_n e] at hi'
      rw [cq_up_n e, cq_up_n e, cq_up_n e]
      obtain ⟨a, b, c, d, f⟩ := h5 i hi'
      exact ⟨a, b, c, by omega, f⟩
theorem cq_D_del {T B n : Nat} {p : Nat → Nat} {z : cq_Z} (h : cq_D T B n p z) (s : Nat) : cq_D T B n p (cq_del z s) := by
  obtain ⟨h1, h3, h4, h5⟩ := h
  refine ⟨h1, h3, h4, fun i hi => ?_⟩
  have hi' : cq_ub (cq_lv z) s false i = true := hi
  by_cases e : i = s
  · subst e
    rw [cq_ub_s] at hi'
    exact absurd hi' (by decide)
  · rw [cq_ub_n e] at hi'
    exact h5 i hi'
theorem cq_D_sr {T B B' n : Nat} {p : Nat → Nat} {z : cq_Z} (h : cq_D T B n p z) {j x : Nat} (hj : j < 4 * n) (hB : B ≤ B') (hx : x ≤ B') : cq_D T B' n p (cq_sr z j x) := by
  obtain ⟨h1, h3, h4, h5⟩ := h
  refine ⟨h1, fun i => ?_, fun i hi => ?_, h5⟩
  · show cq_up (cq_r z) j x i ≤ B'
    unfold cq_up
    have a := h3 i
    split <;> omega
  · show cq_up (cq_r z) j x i = 0
    rw [cq_up_n (by omega)]
    exact h4 i hi
/-! how the counts move -/
theorem cq_us_grant {p cl : Nat → Nat} {lv : Nat → Bool} {s : Nat} (x : Nat) (hs : s < 64) (hl : lv s = false) (q : Nat) : cq_us p (cq_up cl s x) (cq_ub lv s true) q = cq_us p cl lv q + (if cq_un p x q then 1 else 0) := by
  unfold cq_us
  rw [cq_cnt_set (f := fun i => lv i && cq_un p (cl i) q) (s := s) (fun i hi => by
    show (cq_ub lv s true i && cq_un p (cq_up cl s x i) q) = _
    rw [cq_ub_n hi, cq_up_n hi]) (by
    show (lv s && _) = false
    rw [hl]
    rfl) hs]
  rw [cq_ub_s, cq_up_s, Bool.true_and]
theorem cq_hs_grant {cl cu : Nat → Nat} {lv : Nat → Bool} {s : Nat} (x y : Nat) (hs : s < 64) (hl : lv s = false) (j : Nat) : cq_hs (cq_up cl s x) (cq_up cu s y) (cq_ub lv s true) j = cq_hs cl cu lv j + (if x * 4 + y == j then 1 else 0) := by
  unfold cq_hs
  rw [cq_cnt_set (f := fun i => lv i && (cl i * 4 + cu i == j)) (s := s) (fun i hi => by
    show (cq_ub lv s true i && (cq_up cl s x i * 4 + cq_up cu s y i == j)) = _
    rw [cq_ub_n hi, cq_up_n hi, cq_up_n hi]) (by
    show (lv s && _) = false
    rw [hl]
    rfl) hs]
  rw [cq_ub_s, cq_up_s, cq_up_s, Bool.true_and]
theorem cq_us_rm {p cl : Nat → Nat} {lv : Nat → Bool} {s : Nat} (hs : s < 64) (hl : lv s = true) (q : Nat) : cq_us p cl lv q = cq_us p cl (cq_ub lv s false) q + (if cq_un p (cl s) q then 1 else 0) := by
  unfold cq_us
  rw [cq_cnt_set (f := fun i => cq_ub lv s false i && cq_un p (cl i) q) (f' := fun i => lv i && cq_un p (cl i) q) (s := s) (fun i hi => by
    show _ = (cq_ub lv s false i && cq_un p (cl i) q)
    rw [cq_ub_n hi]) (by
    show (cq_ub lv s false s && _) = false
    rw [cq_ub_s]
    rfl) hs]
  rw [hl, Bool.true_and]
theorem cq_hs_rm {cl cu : Nat → Nat} {lv : Nat → Bool} {s : Nat} (hs : s < 64) (hl : lv s = true) (j : Nat) : cq_hs cl cu lv j = cq_hs cl cu (cq_ub lv s false) j + (if cl s * 4 + cu s == j then 1 else 0) := by
  unfold cq_hs
  rw [cq_cnt_set (f := fun i => cq_ub lv s false i && (cl i * 4 + cu i == j)) (f' := fun i => lv i && (cl i * 4 + cu i == j)) (s := s) (fun i hi => by
    show _ = (cq_ub lv s false i && (cl i * 4 + cu i == j))
    rw [cq_ub_n hi]) (by
    show (cq_ub lv s false s && _) = false
    rw [cq_ub_s]
    rfl) hs]
  rw [hl, Bool.true_and]
theorem cq_us_new {p cl : Nat → Nat} {lv : Nat → Bool} {n x : Nat} (hT : cq_T p n) (h : ∀ i, lv i = true → cl i < n) (q : Nat) : cq_us (cq_up p n x) cl lv q = cq_us p cl lv q := by
  unfold cq_us
  refine cq_cnt_congr fun i _ => ?_
  cases hl : lv i with
  | false => rfl
  | true => rw [cq_un_congr hT (fun j hj => cq_up_n (by omega)) (h i hl)]
theorem cq_cc_new {p : Nat → Nat} {n x q : Nat} (h1 : 1 ≤ n) : cq_cc (cq_up p n x) (n + 1) q = cq_cc p n q + (if x == q then 1 else 0) := by
  unfold cq_cc
  rw [cq_cnt_s, cq_cnt_congr (f := fun j => !(j == 0) && (p j == q)) (fun j hj => by
    show (!(j == 0) && (cq_up p n x j == q)) = _
    rw [cq_up_n (by omega)])]
  have e : (n == 0) = false := by simp; omega
  rw [cq_up_s, e, Bool.not_false, Bool.true_and]
/-- all live containers lie under the root -/
theorem cq_us_rt {p cl : Nat → Nat} {lv : Nat → Bool} {n : Nat} (hT : cq_T p n) (h : ∀ i, lv i = true → cl i < n) (hu : cq_us p cl lv 0 < 64) : ∃ i, i < 64 ∧ lv i = false := by
  obtain ⟨i, hi, e⟩ := cq_cnt_room hu
  refine ⟨i, hi, ?_⟩
  cases hl : lv i with
  | false => rfl
  | true =>
    have e' : (lv i && cq_un p (cl i) 0) = false := e
    rw [hl, cq_un_rt hT (cl i + 1) (cl i) (by omega) (h i hl)] at e'
    exact absurd e' (by decide)
theorem cq_us_16 {p cl : Nat → Nat} {lv : Nat → Bool} {n q : Nat} (hT : cq_T p n) (h : ∀ i, lv i = true → cl i < n) (hq : n ≤ q) : cq_us p cl lv q = 0 := by
  refine cq_cnt_0 fun i _ => ?_
  cases hl : lv i with
  | false => rfl
  | true =>
    have := h i hl
    rw [cq_un_gt hT this (by omega)]
    rfl
end
section
/-! the pure machine -/
def cq_u (p : Nat → Nat) (z : cq_Z) : Nat → Nat := cq_us p (cq_cl z) (cq_lv z)
def cq_h (z : cq_Z) : Nat → Nat := cq_hs (cq_cl z) (cq_cu z) (cq_lv z)
def cq_e (l : Nat) (z : cq_Z) (x : Nat) : Nat := cq_E (cq_r z) (cq_h z) l x 4
def cq_le (l n : Nat) (p m : Nat → Nat) (z : cq_Z) (x : Nat) : Bool := cq_el p m (cq_u p z) (cq_r z) (cq_h z) l n x
def cq_on (l n : Nat) (p m : Nat → Nat) (z : cq_Z) (q : Nat) : Bool := cq_op p m (cq_u p z) (cq_r z) (cq_h z) l n q
/-- the user and the slot that a grant takes -/
def cq_ue (l : Nat) (z : cq_Z) (x k : Nat) : Bool := decide (0 < cq_r z (x * 4 + k)) && decide (cq_h z (x * 4 + k) < l)
def cq_ubt (z : cq_Z) (x k j : Nat) : Bool := decide (cq_h z (x * 4 + k) < cq_h z (x * 4 + j))
def cq_us4 (l : Nat) (z : cq_Z) (x : Nat) (k : Nat) : Option Nat := cq_fo (cq_ue l z x) (cq_ubt z x) k
def cq_fr (z : cq_Z) (i : Nat) : Bool := !(cq_lv z i)
def cq_sl (z : cq_Z) : Option Nat := cq_fnd (cq_fr z) 0 64
def cq_gr (l x : Nat) (z : cq_Z) : cq_Z := match cq_us4 l z x 4 with
  | none => z
  | some y => match cq_sl z with
    | none => z
    | some s => cq_put z x y s
def cq_gb (l x : Nat) (z : cq_Z) : Bool := match cq_us4 l z x 4 with
  | none => false
  | some _ => match cq_sl z with
    | none => false
    | some _ => true
/-- the leaf that a step grants to -/
def cq_oc (l n : Nat) (p m : Nat → Nat) (z : cq_Z) (q j : Nat) : Bool := !(j == 0) && (p j == q) && cq_on l n p m z j
def cq_lc (l n : Nat) (p g m : Nat → Nat) (z : cq_Z) (q i : Nat) : Option Nat := cq_fo (cq_oc l n p m z q) (cq_lt g (cq_u p z)) i
def cq_lf (l n : Nat) (p g m : Nat → Nat) (z : cq_Z) : Nat → Nat → Nat
  | 0, q => q
  | f + 1, q => if cq_cc p n q = 0 then q else match cq_lc l n p g m z q n with
    | none => q
    | some b => cq_lf l n p g m z f b
def cq_nx (l n : Nat) (p g m : Nat → Nat) (z : cq_Z) : cq_Z := cq_gr l (cq_lf l n p g m z 16 0) z
def cq_fz (l n : Nat) (p g m : Nat → Nat) : Nat → cq_Z → cq_Z
  | 0, z => z
  | d + 1, z => if cq_on l n p m z 0 then cq_fz l n p g m d (cq_nx l n p g m z) else z
def cq_fn (l n : Nat) (p g m : Nat → Nat) : Nat → cq_Z → Nat
  | 0, _ => 0
  | d + 1, z => if cq_on l n p m z 0 then cq_fn l n p g m d (cq_nx l n p g m z) + 1 else 0
/-- a round of the taking back -/
def cq_st (l n : Nat) (p g : Nat → Nat) (z : cq_Z) (q : Nat) : Bool := decide (cq_cc p n q = 0) && decide (cq_u p z q < g q) && decide (0 < cq_e l z q)
def cq_sv (l n : Nat) (p g : Nat → Nat) (z : cq_Z) : Option Nat := cq_fnd (cq_st l n p g z) 0 n
def cq_fa (p m : Nat → Nat) (z : cq_Z) : Nat → Nat → Option Nat
  | 0, _ => none
  | f + 1, x => if cq_u p z x = m x then some x else if x = 0 then none else cq_fa p m z f (p x)
def cq_fs (p m : Nat → Nat) (z : cq_Z) (s : Nat) : Option Nat := if s = 0 then none else cq_fa p m z 16 (p s)
def cq_bw (p g : Nat → Nat) (z : cq_Z) (a s i : Nat) : Bool := cq_lv z i && !(cq_cl z i == s) && decide (g (cq_cl z i) < cq_u p z (cq_cl z i)) && cq_un p (cq_cl z i) a
def cq_yb (z : cq_Z) (i j : Nat) : Bool := decide (cq_id z j < cq_id z i)
def cq_vi (p g : Nat → Nat) (z : cq_Z) (a s k : Nat) : Option Nat := cq_fo (cq_bw p g z a s) (cq_yb z) k
def cq_rd (l n : Nat) (p g m : Nat → Nat) (z : cq_Z) : Option cq_Z := match cq_sv l n p g z with
  | none => none
  | some s => match cq_fs p m z s with
    | none => none
    | some a => match cq_vi p g z a s 64 with
      | none => none
      | some v => some (cq_gr l s (cq_rq z v))
def cq_pz (l n : Nat) (p g m : Nat → Nat) : Nat → cq_Z → cq_Z
  | 0, z => z
  | d + 1, z => match cq_rd l n p g m z with
    | none => z
    | some z' => cq_pz l n p g m d z'
def cq_pn (l n : Nat) (p g m : Nat → Nat) : Nat → cq_Z → Nat
  | 0, _ => 0
  | d + 1, z => match cq_rd l n p g m z with
    | none => 0
    | some z' => cq_pn l n p g m d z' + 1
/-! what it keeps -/
theorem cq_us4_lt {l : Nat} {z : cq_Z} {x y : Nat} (h : cq_us4 l z x 4 = some y) : y < 4 ∧ 0 < cq_r z (x * 4 + y) ∧ cq_h z (x * 4 + y) < l := by
  obtain ⟨a, b⟩ := cq_fo_lt h
  unfold cq_ue at b
  simp only [Bool.and_eq_true, decide_eq_true_eq] at b
  exact ⟨a, b.1, b.2⟩
theorem cq_sl_lt {z : cq_Z} {s : Nat} (h : cq_sl z = some s) : s < 64 ∧ cq_lv z s = false := by
  obtain ⟨a, _, c⟩ := cq_fnd_some h
  refine ⟨by omega, ?_⟩
  unfold cq_fr at a
  simpa using a
theorem cq_gr_no {l x : Nat} {z : cq_Z} (h : cq_gb l x z = false) : cq_gr l x z = z := by
  unfold cq_gb at h
  unfold cq_gr
  cases e : cq_us4 l z x 4 with
  | none => rfl
  | some y =>
    rw [e] at h
    cases f : cq_sl z with
    | none => rfl
    | some s =>
      rw [f] at h
      exact absurd h (by simp)
theorem cq_gr_yes {l x : Nat} {z : cq_Z} (h : cq_gb l x z = true) : ∃ y s, cq_us4 l z x 4 = some y ∧ cq_sl z = some s ∧ cq_gr l x z = cq_put z x y s := by
  unfold cq_gb at h
  unfold cq_gr
  cases e : cq_us4 l z x 4 with
  | none =>
    rw [e] at h
    exact absurd h (by simp)
  | some y =>
    rw [e] at h
    cases f : cq_sl z with
    | none =>
      rw [f] at h
      exact absurd h (by simp)
    | some s => exact ⟨y, s, rfl, rfl, rfl⟩
theorem cq_D_gr {T B n : Nat} {p : Nat → Nat} {z : cq_Z} (h : cq_D T B n p z) {l x : Nat} (hx : x < n) (hc : cq_cc p n x = 0) : cq_D (T + 1) B n p (cq_gr l x z) := by
  cases e : cq_gb l x z with
  | false =>
    rw [cq_gr_no e]
    exact cq_D_up h (by omega) (Nat.le_refl _)
  | true =>
    obtain ⟨y, s, hy, hs, eq⟩ := cq_gr_yes e
    rw [eq]
    exact cq_D_put h hx (cq_us4_lt hy).1 hc
theorem cq_D_rq {T B n : Nat} {p : Nat → Nat} {z : cq_Z} (h : cq_D T B n p z) {v : Nat} (hv : cq_lv z v = true) : cq_D T (B + 1) n p (cq_rq z v) := by
  obtain ⟨a, b, _, _, _⟩ := h.2.2.2 v hv
  have hr := h.2.1 (cq_cl z v * 4 + cq_cu z v)
  exact cq_D_sr (cq_D_del h v) (by omega) (by omega) (by omega)
theorem cq_lc_some {l n : Nat} {p g m : Nat → Nat} {z : cq_Z} {q i b : Nat} (h : cq_lc l n p g m z q i = some b) : b < i ∧ b ≠ 0 ∧ p b = q ∧ cq_on l n p m z b = true := by
  obtain ⟨a, e⟩ := cq_fo_lt h
  unfold cq_oc at e
  simp only [Bool.and_eq_true, Bool.not_eq_true', beq_eq_false_iff_ne, beq_iff_eq] at e
  exact ⟨a, e.1.1, e.1.2, e.2⟩
theorem cq_lc_ex {l n : Nat} {p g m : Nat → Nat} {z : cq_Z} (hT : cq_T p n) {q : Nat} (hc : cq_cc p n q ≠ 0) (ho : cq_on l n p m z q = true) : ∃ b, cq_lc l n p g m z q n = some b := by
  cases e : cq_lc l n p g m z q n with
  | some b => exact ⟨b, rfl⟩
  | none =>
    obtain ⟨j, a, b, c, d⟩ := (cq_op_in hT hc).mp ho
    have := cq_fo_none e j b
    unfold cq_oc at this
    have d' : cq_on l n p m z j = true := d
    rw [d', c] at this
    simp [a] at this
theorem cq_lf_ok {l n : Nat} {p g m : Nat → Nat} {z : cq_Z} (hT : cq_T p n) : ∀ f q, q < n → n ≤ q + f → cq_on l n p m z q = true → cq_lf l n p g m z f q < n ∧ cq_le l n p m z (cq_lf l n p g m z f q) = true := by
  intro f
  induction f with
  | zero =>
    intro q h1 h2
    omega
  | succ f ih =>
    intro q h1 h2 ho
    unfold cq_lf
    by_cases hc : cq_cc p n q = 0
    · rw [if_pos hc]
      exact ⟨h1, (cq_op_leaf hT h1 hc).symm.trans ho⟩
    · rw [if_neg hc]
      obtain ⟨b, hb⟩ := cq_lc_ex (g := g) hT hc ho
      obtain ⟨b1, b2, b3, b4⟩ := cq_lc_some hb
      have := hT b (by omega) b1
      rw [hb]
      exact ih b b1 (by omega) b4
theorem cq_nx_D {T B l n : Nat} {p g m : Nat → Nat} {z : cq_Z} (hT : cq_T p n) (h1 : 1 ≤ n) (hn : n ≤ 16) (h : cq_D T B n p z) (ho : cq_on l n p m z 0 = true) : cq_D (T + 1) B n p (cq_nx l n p g m z) := by
  obtain ⟨a, b⟩ := cq_lf_ok (g := g) hT 16 0 (by omega) (by omega) ho
  exact cq_D_gr h a (cq_el_cc b).1
theorem cq_fz_D {B l n : Nat} {p g m : Nat → Nat} (hT : cq_T p n) (h1 : 1 ≤ n) (hn : n ≤ 16) : ∀ d T z, cq_D T B n p z → cq_D (T + d) B n p (cq_fz l n p g m d z) := by
  intro d
  induction d with
  | zero =>
    intro T z h
    exact h
  | succ d ih =>
    intro T z h
    unfold cq_fz
    by_cases ho : cq_on l n p m z 0 = true
    · rw [if_pos ho]
      exact cq_D_up (ih (T + 1) _ (cq_nx_D hT h1 hn h ho)) (by omega) (Nat.le_refl _)
    · rw [if_neg ho]
      exact cq_D_up h (by omega) (Nat.le_refl _)
theorem cq_sv_ok {l n : Nat} {p g : Nat → Nat} {z : cq_Z} {s : Nat} (h : cq_sv l n p g z = some s) : s < n ∧ cq_cc p n s = 0 ∧ cq_u p z s < g s ∧ 0 < cq_e l z s := by
  obtain ⟨a, b, c⟩ := cq_fnd_some h
  unfold cq_st at a
  simp only [Bool.and_eq_true, decide_eq_true_eq] at a
  exact ⟨by omega, a.1.1, a.1.2, a.2⟩
theorem cq_vi_ok {p g : Nat → Nat} {z : cq_Z} {a s k v : Nat} (h : cq_vi p g z a s k = some v) : v < k ∧ cq_lv z v = true ∧ cq_cl z v ≠ s ∧ g (cq_cl z v) < cq_u p z (cq_cl z v) ∧ cq_un p (cq_cl z v) a = true := by
  obtain ⟨b, e⟩ := cq_fo_lt h
  unfold cq_bw at e
  simp only [Bool.and_eq_true, Bool.not_eq_true', beq_eq_false_iff_ne, decide_eq_true_eq] at e
  exact ⟨b, e.1.1.1, e.1.1.2, e.1.2, e.2⟩
theorem cq_rd_some {l n : Nat} {p g m : Nat → Nat} {z z' : cq_Z} (h : cq_rd l n p g m z = some z') : ∃ s a v, cq_sv l n p g z = some s ∧ cq_fs p m z s = some a ∧ cq_vi p g z a s 64 = some v ∧ z' = cq_gr l s (cq_rq z v) := by
  unfold cq_rd at h
  cases e1 : cq_sv l n p g z with
  | none => rw [e1] at h; exact absurd h (by simp)
  | some s =>
    rw [e1] at h
    dsimp only at h
    cases e2 : cq_fs p m z s with
    | none => rw [e2] at h; exact absurd h (by simp)
    | some a =>
      rw [e2] at h
      dsimp only at h
      cases e3 : cq_vi p g z a s 64 with
      | none => rw [e3] at h; exact absurd h (by simp)
      | some v =>
        rw [e3] at h
        cases h
        exact ⟨s, a, v, rfl, e2, e3, rfl⟩
theorem cq_rd_D {T B l n : Nat} {p g m : Nat → Nat} {z z' : cq_Z} (h : cq_D T B n p z) (e : cq_rd l n p g m z = some z') : cq_D (T + 1) (B + 1) n p z' := by
  obtain ⟨s, a, v, h1, h2, h3, rfl⟩ := cq_rd_some e
  obtain ⟨a1, a2, _, _⟩ := cq_sv_ok h1
  exact cq_D_gr (cq_D_rq h (cq_vi_ok h3).2.1) a1 a2
theorem cq_pz_D {l n : Nat} {p g m : Nat → Nat} : ∀ d T B z, cq_D T B n p z → cq_D (T + d) (B + d) n p (cq_pz l n p g m d z) := by
  intro d
  induction d with
  | zero =>
    intro T B z h
    exact h
  | succ d ih =>
    intro T B z h
    unfold cq_pz
    cases e : cq_rd l n p g m z with
    | none => exact cq_D_up h (by omega) (by omega)
    | some z' => exact cq_D_up (ih (T + 1) (B + 1) z' (cq_rd_D h e)) (by omega) (by omega)
/-! a step of the fill grants -/
theorem cq_u_put (p : Nat → Nat) {z : cq_Z} {s : Nat} (x y : Nat) (hs : s < 64) (hl : cq_lv z s = false) (q : Nat) : cq_u p (cq_put z x y s) q = cq_u p z q + (if cq_un p x q then 1 else 0) := cq_us_grant x hs hl q
theorem cq_h_put {z : cq_Z} {s : Nat} (x y : Nat) (hs : s < 64) (hl : cq_lv z s = false) (j : Nat) : cq_h (cq_put z x y s) j = cq_h z j + (if x * 4 + y == j then 1 else 0) := cq_hs_grant x y hs hl j
theorem cq_gb_ok {T B l n : Nat} {p : Nat → Nat} {z : cq_Z} (hT : cq_T p n) (h : cq_D T B n p z) {x : Nat} (he : 0 < cq_e l z x) (hu : cq_u p z 0 < 64) : cq_gb l x z = true := by
  obtain ⟨j, a, b, c⟩ := cq_E_ex he
  obtain ⟨i, hi, hl⟩ := cq_us_rt hT (fun i hi => (h.2.2.2 i hi).1) hu
  unfold cq_gb
  cases e : cq_us4 l z x 4 with
  | none =>
    have := cq_fo_none e j a
    unfold cq_ue at this
    simp [b, c] at this
  | some y =>
    cases f : cq_sl z with
    | none =>
      have := cq_fnd_none f i (by omega) (by omega)
      unfold cq_fr at this
      rw [hl] at this
      exact absurd this (by decide)
    | some s => rfl
theorem cq_le_room {l n : Nat} {p m : Nat → Nat} {z : cq_Z} (hT : cq_T p n) : ∀ d x, x < d → x < n → cq_rm p m (cq_u p z) x = true → ∀ a, cq_un p x a = true → cq_u p z a < m a := by
  intro d
  induction d with
  | zero =>
    intro x h
    omega
  | succ d ih =>
    intro x hd hx hr a ha
    unfold cq_rm at hr
    by_cases e : x = 0
    · subst e
      rw [cq_ex_0] at hr
      rw [cq_un_00] at ha
      have : 0 = a := by simpa using ha
      subst this
      simpa using hr
    · have hp := hT x (by omega) hx
      rw [cq_ex_p hT _ e hx] at hr
      simp only [Bool.not_or, Bool.and_eq_true, Bool.not_eq_true', decide_eq_false_iff_not, Nat.not_le] at hr
      by_cases w : x = a
      · subst w
        exact hr.1
      · rw [cq_un_ne hT e hx w] at ha
        refine ih (p x) (by omega) (by omega) ?_ a ha
        unfold cq_rm
        rw [hr.2]
        rfl
theorem cq_on_0 {l n : Nat} {p m : Nat → Nat} {z : cq_Z} (hT : cq_T p n) (ho : cq_on l n p m z 0 = true) : cq_u p z 0 < m 0 := by
  obtain ⟨x, hx, hh⟩ := cq_any_iff.mp ho
  simp only [Bool.and_eq_true] at hh
  exact cq_le_room (l := l) hT (x + 1) x (by omega) hx (cq_el_cc hh.2).2.2 0 hh.1
theorem cq_nx_ok {T B c l n : Nat} {p g m : Nat → Nat} {z : cq_Z} (hJ : cq_J c l n p g m) (h : cq_D T B n p z) (ho : cq_on l n p m z 0 = true) : cq_gb l (cq_lf l n p g m z 16 0) z = true ∧ cq_u p (cq_nx l n p g m z) 0 = cq_u p z 0 + 1 := by
  obtain ⟨⟨h1, h2, h3, h4, h5⟩, hT, hg, hm, h0⟩ := hJ
  obtain ⟨a, b⟩ := cq_lf_ok (g := g) hT 16 0 (by omega) (by omega) ho
  obtain ⟨b1, b2, b3⟩ := cq_el_cc b
  have hu := cq_on_0 hT ho
  have hb := cq_gb_ok (l := l) hT h b2 (by omega)
  refine ⟨hb, ?_⟩
  obtain ⟨y, s, hy, hs, eq⟩ := cq_gr_yes hb
  obtain ⟨s1, s2⟩ := cq_sl_lt hs
  unfold cq_nx
  rw [eq, cq_u_put p _ _ s1 s2, cq_un_rt hT _ _ (Nat.lt_succ_self _) a]
  rfl
end
section
/-! small helps for the walks -/
theorem cq_if {c d A B : Prop} (e : c ↔ d) (f : d → A) (g : ¬ d → B) : (c → A) ∧ (¬ c → B) := ⟨fun h => f (e.mp h), fun h => g (fun k => h (e.mpr k))⟩
theorem cq_b0 {b : Bool} {A B : Prop} (f : b = false → A) (g : b = true → B) : (cq_bI b = 0 → A) ∧ (¬ cq_bI b = 0 → B) := by
  cases b with
  | false => exact br_t rfl (f rfl)
  | true => exact br_f (by decide) (g rfl)
theorem cq_nb (b : Bool) : narrow .boolean (.int (cq_bI b)) = .int (cq_bI b) := by
  cases b <;> rfl
theorem cq_m1 {i : Nat} (h : i < 2 ^ 31) : ¬ nI i = -1 := by
  intro e
  have e' := congrArg Int32.toInt e
  rw [nI_toInt h] at e'
  have : (-1 : Int32).toInt = -1 := by decide
  omega
theorem cq_oe {o : Option Nat} {A B : Prop} (ho : ∀ i, o = some i → i < 2 ^ 31) (f : o = none → A) (g : ∀ i, o = some i → B) : (cq_oI o = -1 → A) ∧ (¬ cq_oI o = -1 → B) := by
  cases o with
  | none => exact br_t rfl (f rfl)
  | some i => exact br_f (cq_m1 (ho i rfl)) (g i rfl)
theorem cq_ol {o : Option Nat} {A B : Prop} (ho : ∀ i, o = some i → i < 2 ^ 31) (f : o = none → A) (g : ∀ i, o = some i → B) : (cq_oI o < 0 → A) ∧ (¬ cq_oI o < 0 → B) := by
  cases o with
  | none => exact br_t (by decide) (f rfl)
  | some i => exact br_f (nI_pos (ho i rfl)) (g i rfl)
theorem cq_og {o : Option Nat} {A B : Prop} (ho : ∀ i, o = some i → i < 2 ^ 31) (f : o = none → B) (g : ∀ i, o = some i → A) : (0 ≤ cq_oI o → A) ∧ (¬ 0 ≤ cq_oI o → B) := by
  cases o with
  | none => exact br_f (by decide) (f rfl)
  | some i => exact br_t (nI_pos' (ho i rfl)) (g i rfl)
theorem cq_rA (f : Nat → Nat) {x : Nat} (h : x < 2 ^ 31) : cq_A f (nI x).toNatClampNeg = nI (f x) := by
  rw [nI_clamp h]
  rfl
theorem cq_rP0 (p : Nat → Nat) : cq_P p (nI 0).toNatClampNeg = -1 := by
  rw [nI_clamp (by decide)]
  rfl
theorem cq_rPp (p : Nat → Nat) {x : Nat} (h0 : x ≠ 0) (h : x < 2 ^ 31) : cq_P p (nI x).toNatClampNeg = nI (p x) := by
  rw [nI_clamp h]
  exact cq_P_p h0
theorem cq_rV (lv : Nat → Bool) {x : Nat} (h : x < 2 ^ 31) : cq_V lv (nI x).toNatClampNeg = cq_bI (lv x) := by
  rw [nI_clamp h]
  rfl
theorem cq_ix (x k : Nat) : nI x * 4 + nI k = nI (x * 4 + k) := by
  rw [← nI_add, ← pk_mul]
  rfl
theorem cq_s1 {a b : Nat} (ha : a ≤ 64) (hb : b ≤ 64) : (nI a - nI b ≤ 0) ↔ a ≤ b := by
  constructor
  · intro h
    apply Nat.le_of_not_lt
    intro hl
    rw [pk_sub (by omega)] at h
    exact nI_nle (by omega) (by omega) h
  · intro h
    by_cases e : a = b
    · subst e
      rw [pk_sub (Nat.le_refl _), Nat.sub_self]
      decide
    · exact Int32.le_of_lt (pk_sneg (by omega) (by omega))
end
section
/-! the reference's readers -/
abbrev cq_Y (c l n : Nat) (p g m : Nat → Nat) (z : cq_Z) : SY := (nI c, nI l, nI n, nI (cq_t z), cq_P p, cq_A g, cq_A m, cq_A (cq_r z), cq_A (cq_id z), cq_A (cq_cl z), cq_A (cq_cu z), cq_V (cq_lv z))
section
variable {c l n : Nat} {p g m : Nat → Nat} {z : cq_Z} {post : Int32 → Prop} {A B : Prop} {T' B' : Nat}
theorem cq_vb {lv : Nat → Bool} {x : Nat} (h : x < 2 ^ 31) (f : lv x = false → A) (k : lv x = true → B) : (cq_V lv (nI x).toNatClampNeg = 0 → A) ∧ (¬ cq_V lv (nI x).toNatClampNeg = 0 → B) := by
  rw [cq_rV lv h]
  exact cq_b0 f k
theorem cq_pe (hT : cq_T p n) (hn : n ≤ 16) {j q : Nat} (h0 : j ≠ 0) (hj : j < n) (hq : q < 2 ^ 31) : cq_P p (nI j).toNatClampNeg = nI q ↔ p j = q := by
  have := hT j (by omega) hj
  rw [cq_rPp p h0 (by omega)]
  exact nI_eq (by omega) hq
theorem cq_g0 {f : Nat → Nat} {x : Nat} (h : x < 2 ^ 31) (hf : f x < 2 ^ 31) : cq_A f (nI x).toNatClampNeg ≤ 0 ↔ f x = 0 := by
  rw [cq_rA f h, show (0 : Int32) = nI 0 from rfl, nI_leI hf (by decide)]
  omega
theorem cq_g1 {f : Nat → Nat} {x : Nat} (h : x < 2 ^ 31) (hf : f x < 2 ^ 31) : cq_A f (nI x).toNatClampNeg = 0 ↔ f x = 0 := by
  rw [cq_rA f h, show (0 : Int32) = nI 0 from rfl, nI_eq hf (by decide)]
theorem cq_y_un (hT : cq_T p n) (hn : n ≤ 16) {a : Nat} (ha : a < 2 ^ 31) : ∀ d x i f, x < d → x < n → x + i ≤ 16 → d < f → post (cq_bI (cq_un p x a)) → wY_isUnder_5 post (nI a) (nI c) (nI l) (nI n) (nI (cq_t z)) (cq_P p) (cq_A g) (cq_A m) (cq_A (cq_r z)) (cq_A (cq_id z)) (cq_A (cq_cl z)) (cq_A (cq_cu z)) (cq_V (cq_lv z)) f (nI x) (nI i) := by
  intro d
  induction d with
  | zero =>
    intro x i f h
    omega
  | succ d ih =>
    intro x i f hd hx hi hf hp
    obtain ⟨f, rfl⟩ : ∃ k, f = k + 1 := ⟨f - 1, by omega⟩
    refine pk_le 17 i (fun h => by omega) (fun _ => br_f (nI_pos (by omega)) (pk_le 16 x (fun h => by omega) (fun _ => pk_eq x a (fun e => ?_) (fun e => ⟨vp_in_nI (by omega) (by omega), ?_⟩))))
    · subst e
      rw [cq_un_self] at hp
      exact hp
    · by_cases h0 : x = 0
      · subst h0
        refine nm_r (cq_rP0 p) (nm_r (nI_1 i) ?_)
        obtain ⟨f, rfl⟩ : ∃ k, f = k + 1 := ⟨f - 1, by omega⟩
        rw [cq_un_00, show ((0 : Nat) == a) = false by simpa using e] at hp
        exact pk_le 17 (i + 1) (fun _ => hp) (fun _ => br_t (by decide) hp)
      · have hpx := hT x (by omega) hx
        rw [cq_un_ne hT h0 hx e] at hp
        exact nm_r (cq_rPp p h0 (by omega)) (nm_r (nI_1 i) (ih (p x) (i + 1) f (by omega) (by omega) (by omega) (by omega) hp))
theorem cq_y_isUnder (hT : cq_T p n) (hn : n ≤ 16) {x a : Nat} (hx : x < n) (ha : a < 2 ^ 31) (hp : post (cq_bI (cq_un p x a))) : wpY_isUnder post (cq_Y c l n p g m z) (nI x) (nI a) :=
  Exists.intro (x + 2) (cq_y_un hT hn ha (x + 1) x 0 (x + 2) (by omega) hx (by omega) (by omega) hp)
def cq_hc (p : Nat → Nat) (n q : Nat) : Bool := !(decide (cq_cc p n q = 0))
theorem cq_hc_f {q : Nat} (h : cq_cc p n q = 0) : cq_hc p n q = false := by simp [cq_hc, h]
theorem cq_hc_t {q : Nat} (h : cq_cc p n q ≠ 0) : cq_hc p n q = true := by simp [cq_hc, h]
theorem cq_y_hc (hT : cq_T p n) (hn : n ≤ 16) {q : Nat} (hq : q < 2 ^ 31) (hp : post (cq_bI (cq_hc p n q))) : ∀ d j f, j + d = n → 1 ≤ j → d < f → (∀ i, i ≠ 0 → i < j → p i ≠ q) → wY_hasChildren_2 post (nI q) (nI c) (nI l) (nI n) (nI (cq_t z)) (cq_P p) (cq_A g) (cq_A m) (cq_A (cq_r z)) (cq_A (cq_id z)) (cq_A (cq_cl z)) (cq_A (cq_cu z)) (cq_V (cq_lv z)) f (nI j) := by
  intro d
  induction d with
  | zero =>
    intro j f hj h1 hf hh
    obtain ⟨f, rfl⟩ : ∃ k, f = k + 1 := ⟨f - 1, by omega⟩
    have e : cq_cc p n q = 0 := cq_cnt_0 fun i hi => by
      by_cases h0 : i = 0
      · simp [h0]
      · simp [h0, hh i h0 (by omega)]
    rw [cq_hc_f e] at hp
    exact pk_le n j (fun _ => hp) (fun h => by omega)
  | succ d ih =>
    intro j f hj h1 hf hh
    obtain ⟨f, rfl⟩ : ∃ k, f = k + 1 := ⟨f - 1, by omega⟩
    refine pk_le n j (fun h => by omega) (fun _ => ⟨vp_in_nI (by omega) (by omega), cq_if (cq_pe hT hn (by omega) (by omega) hq) (fun e => ?_) (fun e => nm_r (nI_1 j) (ih (j + 1) f (by omega) (by omega) (by omega) (fun i h0 hi => ?_)))⟩)
    · have : cq_cc p n q ≠ 0 := fun z => cq_cc_0 z (j := j) (by omega) (by omega) e
      rw [cq_hc_t this] at hp
      exact hp
    · by_cases w : i = j
      · subst w
        exact e
      · exact hh i h0 (by omega)
theorem cq_y_hasChildren (hT : cq_T p n) (hn : n ≤ 16) (h1 : 1 ≤ n) {q : Nat} (hq : q < 2 ^ 31) (hp : post (cq_bI (cq_hc p n q))) : wpY_hasChildren post (cq_Y c l n p g m z) (nI q) :=
  Exists.intro (n + 1) (cq_y_hc hT hn hq hp (n - 1) 1 (n + 1) (by omega) (by omega) (by omega) (fun i h0 hi => by omega))
theorem cq_y_us (hT : cq_T p n) (hn : n ≤ 16) (hl : ∀ i, cq_lv z i = true → cq_cl z i < n) {q : Nat} (hq : q < 2 ^ 31) (hp : post (nI (cq_u p z q))) : ∀ d i f, i + d = 64 → d < f → wY_usedOf_4 post (nI q) (nI c) (nI l) (nI n) (nI (cq_t z)) (cq_P p) (cq_A g) (cq_A m) (cq_A (cq_r z)) (cq_A (cq_id z)) (cq_A (cq_cl z)) (cq_A (cq_cu z)) (cq_V (cq_lv z)) f (nI (cq_cnt (fun i => cq_lv z i && cq_un p (cq_cl z i) q) i)) (nI i) := by
  intro d
  induction d with
  | zero =>
    intro i f hi hf
    obtain ⟨f, rfl⟩ : ∃ k, f = k + 1 := ⟨f - 1, by omega⟩
    have e : i = 64 := by omega
    subst e
    exact pk_le 64 64 (fun _ => hp) (fun h => by omega)
  | succ d ih =>
    intro i f hi hf
    obtain ⟨f, rfl⟩ : ∃ k, f = k + 1 := ⟨f - 1, by omega⟩
    have ih' := ih (i + 1) f (by omega) (by omega)
    rw [cq_cnt_s] at ih'
    refine pk_le 64 i (fun h => by omega) (fun _ => ⟨vp_in_nI (by omega) (by omega), cq_vb (by omega) (fun e => nm_r (nI_1 i) ?_) (fun e => ⟨vp_in_nI (by omega) (by omega), ?_⟩)⟩)
    · rw [e] at ih'
      exact ih'
    · rw [cq_rA (cq_cl z) (by omega)]
      refine cq_y_isUnder hT hn (hl i e) hq (cq_b0 (fun e2 => nm_r (nI_1 i) ?_) (fun e2 => nm_r (nI_1 _) (nm_r (nI_1 i) ?_)))
      · rw [e, e2] at ih'
        exact ih'
      · rw [e, e2] at ih'
        exact ih'
theorem cq_y_usedOf (hT : cq_T p n) (hn : n ≤ 16) (hD : cq_D T' B' n p z) {q : Nat} (hq : q < 2 ^ 31) (hp : post (nI (cq_u p z q))) : wpY_usedOf post (cq_Y c l n p g m z) (nI q) :=
  Exists.intro 65 (cq_y_us hT hn (fun i hi => (hD.2.2.2 i hi).1) hq hp 64 0 65 (by omega) (by omega))
theorem cq_y_hs (hl : ∀ i, cq_lv z i = true → cq_cl z i < 16 ∧ cq_cu z i < 4) {x k : Nat} (hx : x < 16) (hk : k < 4) (hp : post (nI (cq_h z (x * 4 + k)))) : ∀ d i f, i + d = 64 → d < f → wY_userUsedOf_5 post (nI x) (nI k) (nI c) (nI l) (nI n) (nI (cq_t z)) (cq_P p) (cq_A g) (cq_A m) (cq_A (cq_r z)) (cq_A (cq_id z)) (cq_A (cq_cl z)) (cq_A (cq_cu z)) (cq_V (cq_lv z)) f (nI (cq_cnt (fun i => cq_lv z i && (cq_cl z i * 4 + cq_cu z i == x * 4 + k)) i)) (nI i) := by
  intro d
  induction d with
  | zero =>
    intro i f hi hf
    obtain ⟨f, rfl⟩ : ∃ k, f = k + 1 := ⟨f - 1, by omega⟩
    have e : i = 64 := by omega
    subst e
    exact pk_le 64 64 (fun _ => hp) (fun h => by omega)
  | succ d ih =>
    intro i f hi hf
    obtain ⟨f, rfl⟩ : ∃ k, f = k + 1 := ⟨f - 1, by omega⟩
    have ih' := ih (i + 1) f (by omega) (by omega)
    rw [cq_cnt_s] at ih'
    refine pk_le 64 i (fun h => by omega) (fun _ => ⟨vp_in_nI (by omega) (by omega), cq_vb (by omega) (fun e => nm_r (nI_1 i) ?_) (fun e => ⟨vp_in_nI (by omega) (by omega), ?_⟩)⟩)
    · rw [e] at ih'
      exact ih'
    · obtain ⟨a, b⟩ := hl i e
      refine cq_if (d := cq_cl z i = x) (by rw [cq_rA (cq_cl z) (by omega)]; exact nI_eq (by omega) (by omega)) (fun e2 => ⟨vp_in_nI (by omega) (by omega), cq_if (d := cq_cu z i = k) (by rw [cq_rA (cq_cu z) (by omega)]; exact nI_eq (by omega) (by omega)) (fun e3 => nm_r (nI_1 _) (nm_r (nI_1 i) ?_)) (fun e3 => nm_r (nI_1 i) ?_)⟩) (fun e2 => nm_r (nI_1 i) ?_)
      · rw [e, show (cq_cl z i * 4 + cq_cu z i == x * 4 + k) = true by simp; omega] at ih'
        exact ih'
      · rw [e, show (cq_cl z i * 4 + cq_cu z i == x * 4 + k) = false by simp; omega] at ih'
        exact ih'
      · rw [e, show (cq_cl z i * 4 + cq_cu z i == x * 4 + k) = false by simp; omega] at ih'
        exact ih'
theorem cq_y_userUsedOf (hn : n ≤ 16) (hD : cq_D T' B' n p z) {x k : Nat} (hx : x < n) (hk : k < 4) (hp : post (nI (cq_h z (x * 4 + k)))) : wpY_userUsedOf post (cq_Y c l n p g m z) (nI x) (nI k) :=
  Exists.intro 65 (cq_y_hs (fun i hi => ⟨Nat.lt_of_lt_of_le (hD.2.2.2 i hi).1 hn, (hD.2.2.2 i hi).2.1⟩) (by omega) hk hp 64 0 65 (by omega) (by omega))
theorem cq_y_e (hn : n ≤ 16) (h64 : l ≤ 64) (hD : cq_D T' B' n p z) (hB : B' < 2 ^ 30) {x : Nat} (hx : x < n) (hp : post (nI (cq_e l z x))) : ∀ d k f, k + d = 4 → d < f → wY_eOf_4 post (nI x) (nI c) (nI l) (nI n) (nI (cq_t z)) (cq_P p) (cq_A g) (cq_A m) (cq_A (cq_r z)) (cq_A (cq_id z)) (cq_A (cq_cl z)) (cq_A (cq_cu z)) (cq_V (cq_lv z)) f (nI (cq_E (cq_r z) (cq_h z) l x k)) (nI k) := by
  intro d
  induction d with
  | zero =>
    intro k f hk hf
    obtain ⟨f, rfl⟩ : ∃ k, f = k + 1 := ⟨f - 1, by omega⟩
    have e : k = 4 := by omega
    subst e
    exact pk_le 4 4 (fun _ => hp) (fun h => by omega)
  | succ d ih =>
    intro k f hk hf
    obtain ⟨f, rfl⟩ : ∃ k, f = k + 1 := ⟨f - 1, by omega⟩
    have ih' := ih (k + 1) f (by omega) (by omega)
    rw [cq_E_s] at ih'
    have hh : cq_h z (x * 4 + k) ≤ 64 := cq_hs_le _ _ _ _
    have hr := hD.2.1 (x * 4 + k)
    refine pk_le 4 k (fun h => by omega) (fun _ => cq_y_userUsedOf hn hD hx (by omega) ?_)
    by_cases hl : l ≤ cq_h z (x * 4 + k)
    · refine nm_e (br_t ((cq_s1 h64 hh).mpr hl) (nm_r (nI_1 k) ?_))
      rw [show min (cq_r z (x * 4 + k)) (l - cq_h z (x * 4 + k)) = 0 by omega] at ih'
      exact ih'
    · refine nm_r (pk_sub (by omega)) (br_f (nI_nle (by omega) (by omega)) ⟨by rw [cq_ix]; exact vp_in_nI (by omega) (by omega), nm_r (by rw [cq_ix, cq_rA _ (by omega)]) (pk_le (l - cq_h z (x * 4 + k)) (cq_r z (x * 4 + k)) (fun hle => nm_r (nI_add _ _) (nm_r (nI_1 k) ?_)) (fun hle => nm_r (nI_add _ _) (nm_r (nI_1 k) ?_)))⟩)
      · rw [show min (cq_r z (x * 4 + k)) (l - cq_h z (x * 4 + k)) = l - cq_h z (x * 4 + k) by omega] at ih'
        exact ih'
      · rw [show min (cq_r z (x * 4 + k)) (l - cq_h z (x * 4 + k)) = cq_r z (x * 4 + k) by omega] at ih'
        exact ih'
theorem cq_y_eOf (hn : n ≤ 16) (h64 : l ≤ 64) (hD : cq_D T' B' n p z) (hB : B' < 2 ^ 30) {x : Nat} (hx : x < n) (hp : post (nI (cq_e l z x))) : wpY_eOf post (cq_Y c l n p g m z) (nI x) :=
  Exists.intro 5 (cq_y_e hn h64 hD hB hx hp 4 0 5 (by omega) (by omega))
end
end
section
/-! the reference: eligible, open, lighter, the lightest child -/
section
variable {c l n : Nat} {p g m : Nat → Nat} {z : cq_Z} {post : Int32 → Prop} {A B : Prop} {T' B' : Nat}
theorem cq_rm_f {u : Nat → Nat} (hT : cq_T p n) {x : Nat} (hx : x < n) (h : m x ≤ u x) : cq_rm p m u x = false := by
  unfold cq_rm
  rw [cq_ex_st hT hx (by simpa using h)]
  rfl
theorem cq_rm_0 {u : Nat → Nat} (h : u 0 < m 0) : cq_rm p m u 0 = true := by
  unfold cq_rm
  rw [cq_ex_0]
  simpa using h
theorem cq_rm_p {u : Nat → Nat} (hT : cq_T p n) {x : Nat} (h0 : x ≠ 0) (hx : x < n) (h : u x < m x) : cq_rm p m u x = cq_rm p m u (p x) := by
  unfold cq_rm
  rw [cq_ex_p hT _ h0 hx, show decide (m x ≤ u x) = false by simpa using h, Bool.false_or]
theorem cq_y_rm (hJ : cq_J c l n p g m) (hD : cq_D T' B' n p z) : ∀ d x i f, x < d → x < n → x + i ≤ 16 → d < f → post (cq_bI (cq_rm p m (cq_u p z) x)) → wY_eligibleLeaf_24 post (nI c) (nI l) (nI n) (nI (cq_t z)) (cq_P p) (cq_A g) (cq_A m) (cq_A (cq_r z)) (cq_A (cq_id z)) (cq_A (cq_cl z)) (cq_A (cq_cu z)) (cq_V (cq_lv z)) f (nI x) (nI i) := by
  obtain ⟨⟨h1, h2, h3, h4, hn⟩, hT, hg, hm, h0⟩ := hJ
  intro d
  induction d with
  | zero =>
    intro x i f h
    omega
  | succ d ih =>
    intro x i f hd hx hi hf hp
    obtain ⟨f, rfl⟩ : ∃ k, f = k + 1 := ⟨f - 1, by omega⟩
    have hu : cq_u p z x ≤ 64 := cq_us_le _ _ _ _
    have hmx := hm x
    refine pk_le 17 i (fun h => by omega) (fun _ => br_f (nI_pos (by omega)) (pk_le 16 x (fun h => by omega) (fun _ => cq_y_usedOf hT hn hD (by omega) ⟨vp_in_nI (by omega) (by omega), cq_if (d := cq_u p z x < m x) (by rw [cq_rA m (by omega)]; exact nI_ltI (by omega) (by omega)) (fun e => ⟨vp_in_nI (by omega) (by omega), ?_⟩) (fun e => ?_)⟩)))
    · by_cases h0 : x = 0
      · subst h0
        refine nm_r (cq_rP0 p) (nm_r (nI_1 i) ?_)
        obtain ⟨f, rfl⟩ : ∃ k, f = k + 1 := ⟨f - 1, by omega⟩
        rw [cq_rm_0 e] at hp
        exact pk_le 17 (i + 1) (fun _ => hp) (fun _ => br_t (by decide) hp)
      · have hpx := hT x (by omega) hx
        rw [cq_rm_p hT h0 hx e] at hp
        exact nm_r (cq_rPp p h0 (by omega)) (nm_r (nI_1 i) (ih (p x) (i + 1) f (by omega) (by omega) (by omega) (by omega) hp))
    · rw [cq_rm_f hT hx (by omega)] at hp
      exact hp
theorem cq_e_le (l : Nat) (z : cq_Z) (x : Nat) : cq_e l z x ≤ l * 4 := cq_E_le _ _ _ _ _
theorem cq_y_eligibleLeaf (hJ : cq_J c l n p g m) (hD : cq_D T' B' n p z) (hB : B' < 2 ^ 30) {x : Nat} (hx : x < n) (hp : post (cq_bI (cq_le l n p m z x))) : wpY_eligibleLeaf post (cq_Y c l n p g m z) (nI x) := by
  have hJ' := hJ
  obtain ⟨⟨h1, h2, h3, h4, hn⟩, hT, hg, hm, h0⟩ := hJ
  have he := cq_e_le l z x
  have hle : cq_le l n p m z x = (decide (cq_cc p n x = 0) && decide (0 < cq_e l z x) && cq_rm p m (cq_u p z) x) := rfl
  refine cq_y_hasChildren hT hn h4 (by omega) (cq_b0 (fun e => cq_y_eOf hn h3 hD hB hx (pk_lt 0 (cq_e l z x) (fun hl => Exists.intro (x + 2) (cq_y_rm hJ' hD (x + 1) x 0 (x + 2) (by omega) hx (by omega) (by omega) ?_)) (fun hl => ?_))) (fun e => ?_))
  · unfold cq_hc at e
    rw [hle, show decide (cq_cc p n x = 0) = true by simpa using e, show decide (0 < cq_e l z x) = true by simpa using hl] at hp
    exact hp
  · rw [hle, show decide (0 < cq_e l z x) = false by simp; omega, Bool.and_false, Bool.false_and] at hp
    exact hp
  · unfold cq_hc at e
    rw [hle, show decide (cq_cc p n x = 0) = false by simpa using e, Bool.false_and, Bool.false_and] at hp
    exact hp
theorem cq_y_op (hJ : cq_J c l n p g m) (hD : cq_D T' B' n p z) (hB : B' < 2 ^ 30) {q : Nat} (hq : q < 2 ^ 31) (hp : post (cq_bI (cq_on l n p m z q))) : ∀ d i f, i + d = n → d < f → (∀ j, j < i → (cq_un p j q && cq_le l n p m z j) = false) → wY_isOpen_2 post (nI q) (nI c) (nI l) (nI n) (nI (cq_t z)) (cq_P p) (cq_A g) (cq_A m) (cq_A (cq_r z)) (cq_A (cq_id z)) (cq_A (cq_cl z)) (cq_A (cq_cu z)) (cq_V (cq_lv z)) f (nI i) := by
  have hJ' := hJ
  obtain ⟨⟨h1, h2, h3, h4, hn⟩, hT, hg, hm, h0⟩ := hJ
  intro d
  induction d with
  | zero =>
    intro i f hi hf hh
    obtain ⟨f, rfl⟩ : ∃ k, f = k + 1 := ⟨f - 1, by omega⟩
    have e : cq_on l n p m z q = false := cq_any_f fun j hj => hh j (by omega)
    rw [e] at hp
    exact pk_le n i (fun _ => hp) (fun h => by omega)
  | succ d ih =>
    intro i f hi hf hh
    obtain ⟨f, rfl⟩ : ∃ k, f = k + 1 := ⟨f - 1, by omega⟩
    have nxt : (cq_un p i q && cq_le l n p m z i) = false → wY_isOpen_2 post (nI q) (nI c) (nI l) (nI n) (nI (cq_t z)) (cq_P p) (cq_A g) (cq_A m) (cq_A (cq_r z)) (cq_A (cq_id z)) (cq_A (cq_cl z)) (cq_A (cq_cu z)) (cq_V (cq_lv z)) f (nI (i + 1)) := fun e => ih (i + 1) f (by omega) (by omega) (fun j hj => by
      by_cases w : j = i
      · subst w
        exact e
      · exact hh j (by omega))
    refine pk_le n i (fun h => by omega) (fun _ => cq_y_isUnder hT hn (by omega) hq (cq_b0 (fun e => nm_r (nI_1 i) (nxt (by rw [e]; rfl))) (fun e => cq_y_eligibleLeaf hJ' hD hB (by omega) (cq_b0 (fun e2 => nm_r (nI_1 i) (nxt (by rw [e2, Bool.and_false]))) (fun e2 => ?_)))))
    have e3 : cq_on l n p m z q = true := cq_any_iff.mpr ⟨i, by omega, by
      show (cq_un p i q && cq_le l n p m z i) = true
      rw [e, e2]
      rfl⟩
    rw [e3] at hp
    exact hp
theorem cq_y_isOpen (hJ : cq_J c l n p g m) (hD : cq_D T' B' n p z) (hB : B' < 2 ^ 30) {q : Nat} (hq : q < 2 ^ 31) (hp : post (cq_bI (cq_on l n p m z q))) : wpY_isOpen post (cq_Y c l n p g m z) (nI q) :=
  Exists.intro (n + 1) (cq_y_op hJ hD hB hq hp n 0 (n + 1) (by omega) (by omega) (fun j hj => by omega))
theorem cq_y_lighter (hJ : cq_J c l n p g m) (hD : cq_D T' B' n p z) {a b : Nat} (ha : a < n) (hb : b < n) (hp : post (cq_bI (cq_lt g (cq_u p z) a b))) : wpY_lighter post (cq_Y c l n p g m z) (nI a) (nI b) := by
  obtain ⟨⟨h1, h2, h3, h4, hn⟩, hT, hg, hm, h0⟩ := hJ
  have ga := hg a
  have gb := hg b
  have ua : cq_u p z a ≤ 64 := cq_us_le _ _ _ _
  have ub : cq_u p z b ≤ 64 := cq_us_le _ _ _ _
  have ia : vp_in (nI a) 16 := vp_in_nI (by omega) (by omega)
  have ib : vp_in (nI b) 16 := vp_in_nI (by omega) (by omega)
  have ga0 : cq_A g (nI a).toNatClampNeg ≤ 0 ↔ g a = 0 := cq_g0 (by omega) (by omega)
  have gb0 : cq_A g (nI b).toNatClampNeg ≤ 0 ↔ g b = 0 := cq_g0 (by omega) (by omega)
  have ga1 : cq_A g (nI a).toNatClampNeg = 0 ↔ g a = 0 := cq_g1 (by omega) (by omega)
  have gb1 : cq_A g (nI b).toNatClampNeg = 0 ↔ g b = 0 := cq_g1 (by omega) (by omega)
  unfold cq_lt at hp
  by_cases xa : g a = 0
  · rw [if_neg (by omega)] at hp
    refine ⟨ia, br_t (ga0.mpr xa) ⟨ia, br_t (ga0.mpr xa) ⟨ia, br_t (ga1.mpr xa) ⟨ib, ?_⟩⟩⟩⟩
    by_cases xb : g b = 0
    · rw [if_neg (by omega)] at hp
      refine br_t (gb1.mpr xb) (cq_y_usedOf hT hn hD (by omega) (cq_y_usedOf hT hn hD (by omega) (pk_le (cq_u p z b) (cq_u p z a) (fun h => ?_) (fun h => ?_))))
      · rw [show decide (cq_u p z a < cq_u p z b) = false by simpa using h] at hp
        exact hp
      · rw [show decide (cq_u p z a < cq_u p z b) = true by simpa using h] at hp
        exact hp
    · rw [if_pos (by omega)] at hp
      exact br_f (fun w => xb (gb1.mp w)) hp
  · rw [if_pos (by omega)] at hp
    by_cases xb : g b = 0
    · rw [if_neg (by omega)] at hp
      exact ⟨ia, br_f (fun w => xa (ga0.mp w)) ⟨ib, br_t (gb1.mpr xb) hp⟩⟩
    · rw [if_pos (by omega)] at hp
      have m1 : cq_u p z b * g a ≤ 64 * 64 := Nat.mul_le_mul ub ga
      have m2 : cq_u p z a * g b ≤ 64 * 64 := Nat.mul_le_mul ua gb
      refine ⟨ia, br_f (fun w => xa (ga0.mp w)) ⟨ib, br_f (fun w => xb (gb1.mp w)) ⟨ia, br_f (fun w => xa (ga0.mp w)) ⟨ib, br_f (fun w => xb (gb0.mp w)) (cq_y_usedOf hT hn hD (by omega) ⟨ib, cq_y_usedOf hT hn hD (by omega) ⟨ia, cq_if (d := cq_u p z b * g a ≤ cq_u p z a * g b) (by rw [cq_rA g (by omega), cq_rA g (by omega), pk_mul, pk_mul]; exact nI_leI (by omega) (by omega)) (fun h => ?_) (fun h => ?_)⟩⟩)⟩⟩⟩⟩
      · rw [show decide (cq_u p z a * g b < cq_u p z b * g a) = false by simpa using h] at hp
        exact hp
      · rw [show decide (cq_u p z a * g b < cq_u p z b * g a) = true by simpa using h] at hp
        exact hp
theorem cq_oc_no {q o : Nat} (h0 : o ≠ 0) (h : p o ≠ q) : cq_oc l n p m z q o = false := by
  unfold cq_oc
  simp [h]
theorem cq_oc_op {q o : Nat} (h0 : o ≠ 0) (h : p o = q) : cq_oc l n p m z q o = cq_on l n p m z o := by
  unfold cq_oc
  simp [h0, h]
theorem cq_y_lc36 (hJ : cq_J c l n p g m) (hD : cq_D T' B' n p z) (hB : B' < 2 ^ 30) {J2 : Int32 → Prop} {q x : Nat} (hq : q < 2 ^ 31) (hx : x < n) : ∀ d o f b, o + d = n → 1 ≤ o → d < f → ((b = true ∧ ∀ o', o ≤ o' → o' < n → cq_oc l n p m z q o' = true → cq_lt g (cq_u p z) o' x = false) → post (nI x)) → (¬ (b = true ∧ ∀ o', o ≤ o' → o' < n → cq_oc l n p m z q o' = true → cq_lt g (cq_u p z) o' x = false) → J2 (nI (x + 1))) → wY_lightestOpenChild_36 post J2 (nI q) (nI x) (nI c) (nI l) (nI n) (nI (cq_t z)) (cq_P p) (cq_A g) (cq_A m) (cq_A (cq_r z)) (cq_A (cq_id z)) (cq_A (cq_cl z)) (cq_A (cq_cu z)) (cq_V (cq_lv z)) f (cq_bI b) (nI o) := by
  have hJ' := hJ
  obtain ⟨⟨h1, h2, h3, h4, hn⟩, hT, hg, hm, h0⟩ := hJ
  intro d
  induction d with
  | zero =>
    intro o f b ho h1 hf ha hb
    obtain ⟨f, rfl⟩ : ∃ k, f = k + 1 := ⟨f - 1, by omega⟩
    refine pk_le n o (fun _ => cq_b0 (fun e => nm_r (nI_1 x) (hb ?_)) (fun e => ha ⟨e, fun o' a b => by omega⟩)) (fun h => by omega)
    rw [e]
    rintro ⟨w, _⟩
    exact absurd w (by decide)
  | succ d ih =>
    intro o f b ho h1 hf ha hb
    obtain ⟨f, rfl⟩ : ∃ k, f = k + 1 := ⟨f - 1, by omega⟩
    have nxt : (cq_oc l n p m z q o = true → cq_lt g (cq_u p z) o x = false) → wY_lightestOpenChild_36 post J2 (nI q) (nI x) (nI c) (nI l) (nI n) (nI (cq_t z)) (cq_P p) (cq_A g) (cq_A m) (cq_A (cq_r z)) (cq_A (cq_id z)) (cq_A (cq_cl z)) (cq_A (cq_cu z)) (cq_V (cq_lv z)) f (cq_bI b) (nI (o + 1)) := by
      intro hk
      have key : (b = true ∧ ∀ o', o + 1 ≤ o' → o' < n → cq_oc l n p m z q o' = true → cq_lt g (cq_u p z) o' x = false) → (b = true ∧ ∀ o', o ≤ o' → o' < n → cq_oc l n p m z q o' = true → cq_lt g (cq_u p z) o' x = false) := by
        rintro ⟨w, w'⟩
        refine ⟨w, fun o' a1 a2 a3 => ?_⟩
        by_cases e : o' = o
        · subst e
          exact hk a3
        · exact w' o' (by omega) a2 a3
      exact ih (o + 1) f b (by omega) (by omega) (by omega) (fun w => ha (key w)) (fun w => hb (fun w' => w ⟨w'.1, fun o' a1 => w'.2 o' (by omega)⟩))
    refine pk_le n o (fun h => by omega) (fun _ => pk_eq o x (fun e => nm_r (nI_1 o) (nxt (fun _ => ?_))) (fun e => ⟨vp_in_nI (by omega) (by omega), cq_if (cq_pe hT hn (by omega) (by omega) hq) (fun e2 => cq_y_isOpen hJ' hD hB (by omega) (cq_b0 (fun e3 => nm_r (nI_1 o) (nxt (fun w => ?_))) (fun e3 => cq_y_lighter hJ' hD (by omega) hx (cq_b0 (fun e4 => nm_r (nI_1 o) (nxt (fun _ => e4))) (fun e4 => nm_r (nI_1 o) (ih (o + 1) f false (by omega) (by omega) (by omega) (fun w => absurd w.1 (by decide)) (fun _ => hb (fun w => ?_)))))))) (fun e2 => nm_r (nI_1 o) (nxt (fun w => ?_)))⟩))
    · subst e
      cases w : cq_lt g (cq_u p z) o o with
      | false => rfl
      | true => exact w.symm.trans (cq_lt_as g (cq_u p z) o o w)
    · rw [cq_oc_op (by omega) e2, e3] at w
      exact absurd w (by decide)
    · have := w.2 o (Nat.le_refl _) (by omega) (by rw [cq_oc_op (by omega) e2]; exact e3)
      rw [e4] at this
      exact absurd this (by decide)
    · rw [cq_oc_no (by omega) e2] at w
      exact absurd w (by decide)
theorem cq_lc_min {q b : Nat} (h : cq_lc l n p g m z q n = some b) : (∀ o, o < n → cq_oc l n p m z q o = true → cq_lt g (cq_u p z) o b = false) ∧ (∀ o, o < b → cq_oc l n p m z q o = true → cq_lt g (cq_u p z) b o = true) :=
  cq_fo_min (cq_lt_as g (cq_u p z)) (cq_lt_nt g (cq_u p z)) h
theorem cq_y_lc2 (hJ : cq_J c l n p g m) (hD : cq_D T' B' n p z) (hB : B' < 2 ^ 30) {q : Nat} (hq : q < 2 ^ 31) (hp : post (cq_oI (cq_lc l n p g m z q n))) : ∀ d x f, x + d = n → 1 ≤ x → d < f → (∀ b, cq_lc l n p g m z q n = some b → x ≤ b) → wY_lightestOpenChild_2 post (nI q) (nI c) (nI l) (nI n) (nI (cq_t z)) (cq_P p) (cq_A g) (cq_A m) (cq_A (cq_r z)) (cq_A (cq_id z)) (cq_A (cq_cl z)) (cq_A (cq_cu z)) (cq_V (cq_lv z)) f (nI x) := by
  have hJ' := hJ
  obtain ⟨⟨h1, h2, h3, h4, hn⟩, hT, hg, hm, h0⟩ := hJ
  intro d
  induction d with
  | zero =>
    intro x f hx h1 hf hh
    obtain ⟨f, rfl⟩ : ∃ k, f = k + 1 := ⟨f - 1, by omega⟩
    refine pk_le n x (fun _ => ?_) (fun h => by omega)
    cases e : cq_lc l n p g m z q n with
    | none =>
      rw [e] at hp
      exact hp
    | some b =>
      have := hh b e
      have := (cq_lc_some e).1
      omega
  | succ d ih =>
    intro x f hx h1 hf hh
    obtain ⟨f, rfl⟩ : ∃ k, f = k + 1 := ⟨f - 1, by omega⟩
    have nxt : (∀ b, cq_lc l n p g m z q n = some b → x ≠ b) → wY_lightestOpenChild_2 post (nI q) (nI c) (nI l) (nI n) (nI (cq_t z)) (cq_P p) (cq_A g) (cq_A m) (cq_A (cq_r z)) (cq_A (cq_id z)) (cq_A (cq_cl z)) (cq_A (cq_cu z)) (cq_V (cq_lv z)) f (nI (x + 1)) := by
      intro hk
      refine ih (x + 1) f (by omega) (by omega) (by omega) (fun b e => ?_)
      have a1 := hh b e
      have a2 := hk b e
      omega
    refine pk_le n x (fun h => by omega) (fun _ => ⟨vp_in_nI (by omega) (by omega), cq_if (cq_pe hT hn (by omega) (by omega) hq) (fun e => cq_y_isOpen hJ' hD hB (by omega) (cq_b0 (fun e2 => nm_r (nI_1 x) (nxt (fun b eb w => ?_))) (fun e2 => Exists.intro (n + 1) (cq_y_lc36 hJ' hD hB hq (by omega) (n - 1) 1 (n + 1) true (by omega) (by omega) (by omega) (fun w => ?_) (fun w => nxt (fun b eb w2 => w ⟨rfl, fun o' a1 a2 a3 => ?_⟩)))))) (fun e => nm_r (nI_1 x) (nxt (fun b eb w => ?_)))⟩)
    · have := (cq_lc_some eb).2.2.2
      rw [← w, e2] at this
      exact absurd this (by decide)
    · have hoc : cq_oc l n p m z q x = true := by rw [cq_oc_op (by omega) e]; exact e2
      cases eb : cq_lc l n p g m z q n with
      | none =>
        have := cq_fo_none eb x (by omega)
        rw [hoc] at this
        exact absurd this (by decide)
      | some b =>
        have e3 : x = b := by
          have a1 := hh b eb
          obtain ⟨b1, b2, b3, b4⟩ := cq_lc_some eb
          apply Nat.le_antisymm a1
          apply Nat.le_of_not_lt
          intro hlt
          have a2 := (cq_lc_min eb).2 x hlt hoc
          have a3 := w.2 b (by omega) b1 (by rw [cq_oc_op b2 b3]; exact b4)
          rw [a2] at a3
          exact absurd a3 (by decide)
        rw [eb] at hp
        rw [e3]
        exact hp
    · subst w2
      exact (cq_lc_min eb).1 o' a2 a3
    · have := (cq_lc_some eb).2.2.1
      rw [← w] at this
      exact e this
theorem cq_y_lightestOpenChild (hJ : cq_J c l n p g m) (hD : cq_D T' B' n p z) (hB : B' < 2 ^ 30) {q : Nat} (hq : q < 2 ^ 31) (hp : post (cq_oI (cq_lc l n p g m z q n))) : wpY_lightestOpenChild post (cq_Y c l n p g m z) (nI q) :=
  Exists.intro (n + 1) (cq_y_lc2 hJ hD hB hq hp (n - 1) 1 (n + 1) (by have := hJ.1.2.2.2.1; omega) (by omega) (by omega) (fun b e => by have := (cq_lc_some e).2.1; omega))
end
end
section
/-! the reference: grant, step, fill, the children's sum -/
theorem cq_dec {a : Nat} (h : 0 < a) : nI a - 1 = nI (a - 1) := by
  obtain ⟨k, rfl⟩ : ∃ k, a = k + 1 := ⟨a - 1, by omega⟩
  exact nI_pred k
theorem cq_w_dec {f : Nat → Nat} {x y : Nat} (h : x * 4 + y < 2 ^ 31) (h0 : 0 < f (x * 4 + y)) : upd (cq_A f) (nI x * 4 + nI y).toNatClampNeg (cq_A f (nI x * 4 + nI y).toNatClampNeg - 1) = cq_A (cq_up f (x * 4 + y) (f (x * 4 + y) - 1)) := by
  rw [cq_ix, cq_rA f h, nI_clamp h, cq_dec h0, cq_A_up]
theorem cq_w_inc {f : Nat → Nat} {x y : Nat} (h : x * 4 + y < 2 ^ 31) : upd (cq_A f) (nI x * 4 + nI y).toNatClampNeg (cq_A f (nI x * 4 + nI y).toNatClampNeg + 1) = cq_A (cq_up f (x * 4 + y) (f (x * 4 + y) + 1)) := by
  rw [cq_ix, cq_rA f h, nI_clamp h, nI_1, cq_A_up]
theorem cq_w_set {f : Nat → Nat} {i : Nat} (v : Nat) (h : i < 2 ^ 31) : upd (cq_A f) (nI i).toNatClampNeg (nI v) = cq_A (cq_up f i v) := by
  rw [nI_clamp h, cq_A_up]
theorem cq_nar1 : vp_nar .boolean 1 = 1 := by rfl
theorem cq_nar0 : vp_nar .boolean 0 = 0 := by rfl
theorem cq_w_t {lv : Nat → Bool} {i : Nat} (h : i < 2 ^ 31) : upd (cq_V lv) (nI i).toNatClampNeg (vp_nar .boolean 1) = cq_V (cq_ub lv i true) := by
  rw [nI_clamp h, cq_nar1]
  exact cq_V_up lv i true
theorem cq_w_f {lv : Nat → Bool} {i : Nat} (h : i < 2 ^ 31) : upd (cq_V lv) (nI i).toNatClampNeg (vp_nar .boolean 0) = cq_V (cq_ub lv i false) := by
  rw [nI_clamp h, cq_nar0]
  exact cq_V_up lv i false
section
variable {c l n : Nat} {p g m : Nat → Nat} {z : cq_Z} {post : Int32 → SY → Prop} {A B : Prop} {T' B' : Nat}
theorem cq_y_g111 (hn : n ≤ 16) {x y : Nat} (hx : x < n) (hy : y < 4) (hr : 0 < cq_r z (x * 4 + y)) {o : Option Nat} (ho : ∀ s, o = some s → s < 64) (h0 : o = none → post 0 (cq_Y c l n p g m z)) (h1 : ∀ s, o = some s → post 1 (cq_Y c l n p g m (cq_put z x y s))) : wY_grant_111 post (nI x) (nI y) (cq_oI o) (nI c) (nI l) (nI n) (nI (cq_t z)) (cq_P p) (cq_A g) (cq_A m) (cq_A (cq_r z)) (cq_A (cq_id z)) (cq_A (cq_cl z)) (cq_A (cq_cu z)) (cq_V (cq_lv z)) := by
  have ix : vp_in (nI x * 4 + nI y) 64 := by rw [cq_ix]; exact vp_in_nI (by omega) (by omega)
  cases o with
  | none => exact br_f (by decide) (h0 rfl)
  | some s =>
    have hs := ho s rfl
    have is : vp_in (nI s) 64 := vp_in_nI (by omega) (by omega)
    exact br_t (nI_pos' (by omega)) ⟨ix, ix, nm_r (cq_w_dec (by omega) hr) ⟨is, nm_r (cq_w_t (by omega)) ⟨is, nm_r (cq_w_set _ (by omega)) ⟨is, nm_r (cq_w_set _ (by omega)) ⟨is, nm_r (cq_w_set _ (by omega)) (nm_r (nI_1 _) (h1 s rfl))⟩⟩⟩⟩⟩
theorem cq_y_g79 {x1 x2 : Int32} : ∀ d i f, i + d = 64 → d + 1 < f → wY_grant_111 post x1 x2 (cq_oI (cq_fnd (cq_fr z) i d)) (nI c) (nI l) (nI n) (nI (cq_t z)) (cq_P p) (cq_A g) (cq_A m) (cq_A (cq_r z)) (cq_A (cq_id z)) (cq_A (cq_cl z)) (cq_A (cq_cu z)) (cq_V (cq_lv z)) → wY_grant_79 post x1 x2 (nI c) (nI l) (nI n) (nI (cq_t z)) (cq_P p) (cq_A g) (cq_A m) (cq_A (cq_r z)) (cq_A (cq_id z)) (cq_A (cq_cl z)) (cq_A (cq_cu z)) (cq_V (cq_lv z)) f (-1) (nI i) := by
  intro d
  induction d with
  | zero =>
    intro i f hi hf hp
    obtain ⟨f, rfl⟩ : ∃ k, f = k + 1 := ⟨f - 1, by omega⟩
    exact pk_le 64 i (fun _ => hp) (fun h => by omega)
  | succ d ih =>
    intro i f hi hf hp
    obtain ⟨f, rfl⟩ : ∃ k, f = k + 1 := ⟨f - 1, by omega⟩
    rw [cq_fnd_s] at hp
    refine pk_le 64 i (fun h => by omega) (fun _ => br_f (by decide) ⟨vp_in_nI (by omega) (by omega), cq_vb (by omega) (fun e => nm_r (nI_1 i) ?_) (fun e => nm_r (nI_1 i) (ih (i + 1) f (by omega) (by omega) ?_))⟩)
    · obtain ⟨f, rfl⟩ : ∃ k, f = k + 1 := ⟨f - 1, by omega⟩
      have e' : cq_fr z i = true := by unfold cq_fr; rw [e]; rfl
      rw [if_pos e'] at hp
      exact pk_le 64 (i + 1) (fun _ => hp) (fun _ => br_t (nI_pos' (by omega)) hp)
    · have e' : ¬ cq_fr z i = true := by unfold cq_fr; rw [e]; decide
      rw [if_neg e'] at hp
      exact hp
theorem cq_us4_s (l : Nat) (z : cq_Z) (x k : Nat) : cq_us4 l z x (k + 1) = (match cq_us4 l z x k with
    | none => if cq_ue l z x k then some k else none
    | some j => if cq_ue l z x k && cq_ubt z x k j then some k else some j) := rfl
theorem cq_us4_k {l : Nat} {x k : Nat} (h : cq_ue l z x k = false) : cq_us4 l z x (k + 1) = cq_us4 l z x k := cq_fo_k h
theorem cq_us4_4 {l : Nat} {x k y : Nat} (h : cq_us4 l z x k = some y) : y < k := (cq_fo_lt h).1
theorem cq_y_g7 (hn : n ≤ 16) (h64 : l ≤ 64) (hD : cq_D T' B' n p z) (hB : B' < 2 ^ 30) {x : Nat} (hx : x < n) (h0 : cq_us4 l z x 4 = none → post 0 (cq_Y c l n p g m z)) (h1 : ∀ y, cq_us4 l z x 4 = some y → ∃ k : Nat, wY_grant_79 post (nI x) (nI y) (nI c) (nI l) (nI n) (nI (cq_t z)) (cq_P p) (cq_A g) (cq_A m) (cq_A (cq_r z)) (cq_A (cq_id z)) (cq_A (cq_cl z)) (cq_A (cq_cu z)) (cq_V (cq_lv z)) k (-1) 0) : ∀ d k f w, k + d = 4 → d < f → (∀ y, cq_us4 l z x k = some y → w = nI (cq_h z (x * 4 + y))) → wY_grant_7 post (nI x) (nI c) (nI l) (nI n) (nI (cq_t z)) (cq_P p) (cq_A g) (cq_A m) (cq_A (cq_r z)) (cq_A (cq_id z)) (cq_A (cq_cl z)) (cq_A (cq_cu z)) (cq_V (cq_lv z)) f (cq_oI (cq_us4 l z x k)) w (nI k) := by
  intro d
  induction d with
  | zero =>
    intro k f w hk hf hw
    obtain ⟨f, rfl⟩ : ∃ k, f = k + 1 := ⟨f - 1, by omega⟩
    have e : k = 4 := by omega
    subst e
    refine pk_le 4 4 (fun _ => ?_) (fun h => by omega)
    cases e : cq_us4 l z x 4 with
    | none => exact br_f (by decide) (h0 e)
    | some y => exact br_t (nI_pos' (by have := cq_us4_4 e; omega)) (h1 y e)
  | succ d ih =>
    intro k f w hk hf hw
    obtain ⟨f, rfl⟩ : ∃ k, f = k + 1 := ⟨f - 1, by omega⟩
    have hh : cq_h z (x * 4 + k) ≤ 64 := cq_hs_le _ _ _ _
    have hr := hD.2.1 (x * 4 + k)
    have keep : cq_us4 l z x (k + 1) = cq_us4 l z x k → wY_grant_7 post (nI x) (nI c) (nI l) (nI n) (nI (cq_t z)) (cq_P p) (cq_A g) (cq_A m) (cq_A (cq_r z)) (cq_A (cq_id z)) (cq_A (cq_cl z)) (cq_A (cq_cu z)) (cq_V (cq_lv z)) f (cq_oI (cq_us4 l z x k)) w (nI (k + 1)) := by
      intro e
      have := ih (k + 1) f w (by omega) (by omega) (fun y ey => hw y (e ▸ ey))
      rw [e] at this
      exact this
    have take : cq_us4 l z x (k + 1) = some k → wY_grant_7 post (nI x) (nI c) (nI l) (nI n) (nI (cq_t z)) (cq_P p) (cq_A g) (cq_A m) (cq_A (cq_r z)) (cq_A (cq_id z)) (cq_A (cq_cl z)) (cq_A (cq_cu z)) (cq_V (cq_lv z)) f (nI k) (nI (cq_h z (x * 4 + k))) (nI (k + 1)) := by
      intro e
      have := ih (k + 1) f (nI (cq_h z (x * 4 + k))) (by omega) (by omega) (fun y ey => by
        rw [e] at ey
        cases ey
        rfl)
      rw [e] at this
      exact this
    have ue0 : ¬ (0 < cq_r z (x * 4 + k) ∧ cq_h z (x * 4 + k) < l) → cq_us4 l z x (k + 1) = cq_us4 l z x k := by
      intro h
      apply cq_us4_k
      unfold cq_ue
      cases e : (decide (0 < cq_r z (x * 4 + k)) && decide (cq_h z (x * 4 + k) < l)) with
      | false => rfl
      | true =>
        simp only [Bool.and_eq_true, decide_eq_true_eq] at e
        exact absurd e h
    refine pk_le 4 k (fun h => by omega) (fun _ => cq_y_userUsedOf hn hD hx (by omega) ⟨by rw [cq_ix]; exact vp_in_nI (by omega) (by omega), cq_if (d := cq_r z (x * 4 + k) = 0) (by rw [cq_ix]; exact cq_g0 (by omega) (by omega)) (fun e => nm_r (nI_1 k) (keep (ue0 (by omega)))) (fun e => pk_le l (cq_h z (x * 4 + k)) (fun e2 => nm_r (nI_1 k) (keep (ue0 (by omega)))) (fun e2 => ?_))⟩)
    have ue1 : cq_ue l z x k = true := by
      unfold cq_ue
      simp only [Bool.and_eq_true, decide_eq_true_eq]
      omega
    cases es : cq_us4 l z x k with
    | none =>
      refine br_t (by decide) (nm_r (nI_1 k) (take ?_))
      rw [cq_us4_s, es]
      dsimp only
      rw [if_pos ue1]
    | some y =>
      have hy := cq_us4_4 es
      have hw' := hw y es
      subst hw'
      have hh2 : cq_h z (x * 4 + y) ≤ 64 := cq_hs_le _ _ _ _
      rw [es] at keep
      refine br_f (nI_pos (by omega)) (pk_le (cq_h z (x * 4 + y)) (cq_h z (x * 4 + k)) (fun e3 => nm_r (nI_1 k) (keep ?_)) (fun e3 => nm_r (nI_1 k) (take ?_)))
      · rw [cq_us4_s, es]
        dsimp only
        rw [if_neg]
        unfold cq_ubt
        simp only [Bool.and_eq_true, decide_eq_true_eq]
        omega
      · rw [cq_us4_s, es]
        dsimp only
        rw [if_pos]
        unfold cq_ubt
        simp only [Bool.and_eq_true, decide_eq_true_eq]
        exact ⟨ue1, e3⟩
theorem cq_y_grant (hn : n ≤ 16) (h64 : l ≤ 64) (hD : cq_D T' B' n p z) (hB : B' < 2 ^ 30) {x : Nat} (hx : x < n) (hp : post (cq_bI (cq_gb l x z)) (cq_Y c l n p g m (cq_gr l x z))) : wpY_grant post (cq_Y c l n p g m z) (nI x) := by
  have e0 : cq_us4 l z x 0 = none := rfl
  have key := cq_y_g7 (c := c) (g := g) (m := m) (post := post) hn h64 hD hB hx (fun e => ?_) (fun y e => ?_) 4 0 5 0 (by omega) (by omega) (fun y e => by rw [e0] at e; exact absurd e (by simp))
  · exact Exists.intro 5 key
  · unfold cq_gb cq_gr at hp
    rw [e] at hp
    exact hp
  · obtain ⟨y1, y2, y3⟩ := cq_us4_lt e
    refine ⟨66, cq_y_g79 64 0 66 (by omega) (by omega) (cq_y_g111 hn hx y1 y2 (fun s es => (cq_sl_lt es).1) (fun es => ?_) (fun s es => ?_))⟩
    · unfold cq_gb cq_gr at hp
      rw [e] at hp
      dsimp only at hp
      have es' : cq_sl z = none := es
      rw [es'] at hp
      exact hp
    · unfold cq_gb cq_gr at hp
      rw [e] at hp
      dsimp only at hp
      have es' : cq_sl z = some s := es
      rw [es'] at hp
      exact hp
theorem cq_y_st (hJ : cq_J c l n p g m) (hD : cq_D T' B' n p z) (hB : B' < 2 ^ 30) : ∀ k q i f, q < n → n ≤ q + k → i ≤ q → k < f → cq_on l n p m z q = true → post (cq_bI (cq_gb l (cq_lf l n p g m z k q) z)) (cq_Y c l n p g m (cq_gr l (cq_lf l n p g m z k q) z)) → wY_step_4 post (nI c) (nI l) (nI n) (nI (cq_t z)) (cq_P p) (cq_A g) (cq_A m) (cq_A (cq_r z)) (cq_A (cq_id z)) (cq_A (cq_cl z)) (cq_A (cq_cu z)) (cq_V (cq_lv z)) f (nI q) (nI i) := by
  have hJ' := hJ
  obtain ⟨⟨h1, h2, h3, h4, hn⟩, hT, hg, hm, h0⟩ := hJ
  intro k
  induction k with
  | zero =>
    intro q i f a b
    omega
  | succ k ih =>
    intro q i f hq hk hi hf ho hp
    obtain ⟨f, rfl⟩ : ∃ k, f = k + 1 := ⟨f - 1, by omega⟩
    by_cases hc : cq_cc p n q = 0
    · have e : cq_lf l n p g m z (k + 1) q = q := by
        unfold cq_lf
        rw [if_pos hc]
      rw [e] at hp
      refine pk_le 17 i (fun h => by omega) (fun _ => cq_y_hasChildren hT hn h4 (by omega) ?_)
      rw [cq_hc_f hc]
      refine br_t rfl (cq_y_grant hn h3 hD hB hq ?_)
      exact And.intro (cq_nb _) hp
    · obtain ⟨b, hb⟩ := cq_lc_ex (g := g) hT hc ho
      obtain ⟨b1, b2, b3, b4⟩ := cq_lc_some hb
      have hlt := hT b (by omega) b1
      have e : cq_lf l n p g m z (k + 1) q = cq_lf l n p g m z k b := by
        rw [cq_lf, if_neg hc, hb]
      rw [e] at hp
      refine pk_le 17 i (fun h => by omega) (fun _ => cq_y_hasChildren hT hn h4 (by omega) ?_)
      rw [cq_hc_t hc]
      refine br_f (by decide) (cq_y_lightestOpenChild hJ' hD hB (by omega) ?_)
      rw [hb]
      exact br_t (nI_pos' (by omega)) (nm_r (nI_1 i) (ih b (i + 1) f b1 (by omega) (by omega) (by omega) b4 hp))
theorem cq_y_step (hJ : cq_J c l n p g m) (hD : cq_D T' B' n p z) (hB : B' < 2 ^ 30) (ho : cq_on l n p m z 0 = true) (hp : post 1 (cq_Y c l n p g m (cq_nx l n p g m z))) : wpY_step post (cq_Y c l n p g m z) := by
  have e := (cq_nx_ok hJ hD ho).1
  refine Exists.intro 17 (cq_y_st hJ hD hB 16 0 0 17 (by have := hJ.1; omega) (by have := hJ.1; omega) (by omega) (by omega) ho ?_)
  rw [e]
  exact hp
theorem cq_y_fl (hJ : cq_J c l n p g m) (hB : B' < 2 ^ 30) : ∀ d i f z T', i + d = c → i ≤ cq_u p z 0 → cq_D T' B' n p z → d < f → post (nI (i + cq_fn l n p g m d z)) (cq_Y c l n p g m (cq_fz l n p g m d z)) → wY_fill_4 post f (nI i) (nI i) (nI c) (nI l) (nI n) (nI (cq_t z)) (cq_P p) (cq_A g) (cq_A m) (cq_A (cq_r z)) (cq_A (cq_id z)) (cq_A (cq_cl z)) (cq_A (cq_cu z)) (cq_V (cq_lv z)) := by
  have hJ' := hJ
  obtain ⟨⟨h1, h2, h3, h4, hn⟩, hT, hg, hm, h0⟩ := hJ
  intro d
  induction d with
  | zero =>
    intro i f z T' hi hu hD hf hp
    obtain ⟨f, rfl⟩ : ∃ k, f = k + 1 := ⟨f - 1, by omega⟩
    refine pk_le 65 i (fun h => by omega) (fun _ => cq_y_isOpen (q := 0) hJ' hD hB (by decide) ?_)
    cases ho : cq_on l n p m z 0 with
    | false => exact br_t rfl hp
    | true =>
      have := cq_on_0 hT ho
      omega
  | succ d ih =>
    intro i f z T' hi hu hD hf hp
    obtain ⟨f, rfl⟩ : ∃ k, f = k + 1 := ⟨f - 1, by omega⟩
    refine pk_le 65 i (fun h => by omega) (fun _ => cq_y_isOpen (q := 0) hJ' hD hB (by decide) ?_)
    unfold cq_fz cq_fn at hp
    cases ho : cq_on l n p m z 0 with
    | false =>
      rw [ho] at hp
      exact br_t rfl hp
    | true =>
      rw [ho] at hp
      have hx := (cq_nx_ok hJ' hD ho).2
      refine br_f (by decide) (cq_y_step hJ' hD hB ho ?_)
      refine br_f (by decide) (nm_r (nI_1 i) (nm_r (nI_1 i) (ih (i + 1) f _ (T' + 1) (by omega) (by omega) (cq_nx_D hT h4 hn hD ho) (by omega) ?_)))
      rw [show i + 1 + cq_fn l n p g m d (cq_nx l n p g m z) = i + (cq_fn l n p g m d (cq_nx l n p g m z) + 1) by omega]
      exact hp
theorem cq_y_fill (hJ : cq_J c l n p g m) (hB : B' < 2 ^ 30) (hD : cq_D T' B' n p z) (hp : post (nI (cq_fn l n p g m c z)) (cq_Y c l n p g m (cq_fz l n p g m c z))) : wpY_fill post (cq_Y c l n p g m z) :=
  Exists.intro (c + 1) (cq_y_fl hJ hB c 0 (c + 1) z T' (by omega) (by omega) hD (by omega) (by rw [Nat.zero_add]; exact hp))
theorem cq_ck_s (p g : Nat → Nat) (q s j : Nat) : cq_ck p g q s (j + 1) = cq_ck p g q s j + (if !(j == 0) && (p j == q) && !(j == s) then g j else 0) := rfl
theorem cq_y_ck (hJ : cq_J c l n p g m) {q s : Nat} {k : Int32} {post : Int32 → Prop} (hq : q < 2 ^ 31) (hs : ∀ j, j < 16 → (nI j = k ↔ j = s)) (hp : post (nI (cq_ck p g q s n))) : ∀ d j f, j + d = n → 1 ≤ j → d < f → wY_childSum_5 post (nI q) k (nI c) (nI l) (nI n) (nI (cq_t z)) (cq_P p) (cq_A g) (cq_A m) (cq_A (cq_r z)) (cq_A (cq_id z)) (cq_A (cq_cl z)) (cq_A (cq_cu z)) (cq_V (cq_lv z)) f (nI (cq_ck p g q s j)) (nI j) := by
  obtain ⟨⟨h1, h2, h3, h4, hn⟩, hT, hg, hm, h0⟩ := hJ
  intro d
  induction d with
  | zero =>
    intro j f hj h1 hf
    obtain ⟨f, rfl⟩ : ∃ k, f = k + 1 := ⟨f - 1, by omega⟩
    have e : j = n := by omega
    subst e
    exact pk_le j j (fun _ => hp) (fun h => by omega)
  | succ d ih =>
    intro j f hj h1 hf
    obtain ⟨f, rfl⟩ : ∃ k, f = k + 1 := ⟨f - 1, by omega⟩
    have ih' := ih (j + 1) f (by omega) (by omega) (by omega)
    rw [cq_ck_s] at ih'
    refine pk_le n j (fun h => by omega) (fun _ => ⟨vp_in_nI (by omega) (by omega), cq_if (cq_pe hT hn (by omega) (by omega) hq) (fun e => cq_if (hs j (by omega)) (fun e2 => nm_r (nI_1 j) ?_) (fun e2 => ⟨vp_in_nI (by omega) (by omega), nm_r (by rw [cq_rA g (by omega), nI_add]) (nm_r (nI_1 j) ?_)⟩)) (fun e => nm_r (nI_1 j) ?_)⟩)
    · rw [if_neg (by simp [e2])] at ih'
      exact ih'
    · rw [if_pos (by simp [e, e2]; omega)] at ih'
      exact ih'
    · rw [if_neg (by simp [e])] at ih'
      exact ih'
theorem cq_y_childSum (hJ : cq_J c l n p g m) {q s : Nat} {k : Int32} {post : Int32 → Prop} (hq : q < 2 ^ 31) (hs : ∀ j, j < 16 → (nI j = k ↔ j = s)) (hp : post (nI (cq_ck p g q s n))) : wpY_childSum post (cq_Y c l n p g m z) (nI q) k := by
  have h4 := hJ.1.2.2.2.1
  have e : cq_ck p g q s 1 = 0 := rfl
  have := cq_y_ck (z := z) hJ hq hs hp (n - 1) 1 (n + 1) (by omega) (by omega) (by omega)
  rw [e] at this
  exact Exists.intro (n + 1) this
end
end
section
/-! the class's readers -/
abbrev cq_X (c l n : Nat) (p g m : Nat → Nat) (z : cq_Z) (op : Nat → Int32) : SX := (nI c, nI l, nI n, lN (cq_t z), cq_P p, cq_A (cq_cc p n), cq_A g, cq_A m, cq_A (cq_u p z), cq_A (cq_r z), cq_A (cq_h z), cq_G (cq_lv z) (cq_id z), cq_A (cq_cl z), cq_A (cq_cu z), op)
section
variable {c l n : Nat} {p g m : Nat → Nat} {z : cq_Z} {op : Nat → Int32} {post : Int32 → Prop} {A B : Prop} {T' B' : Nat}
theorem cq_x_isQueue_no {v : Int32} (h : v < 0 ∨ nI n ≤ v) (hp : post 0) : wpX_isQueue post (cq_X c l n p g m z op) v := by
  by_cases h0 : v < 0
  · exact br_t h0 hp
  · exact br_f h0 (br_t (h.resolve_left h0) hp)
theorem cq_x_isQueue (hn : n ≤ 16) {j : Nat} (hj : j < n) (hp : post 1) : wpX_isQueue post (cq_X c l n p g m z op) (nI j) :=
  br_f (nI_pos (by omega)) (pk_le n j (fun h => by omega) (fun _ => hp))
theorem cq_x_isLeaf_no {v : Int32} (h : v < 0 ∨ nI n ≤ v) (hp : post 0) : wpX_isLeaf post (cq_X c l n p g m z op) v := by
  unfold wpX_isLeaf
  exact cq_x_isQueue_no h (br_t rfl hp)
theorem cq_c1 (hn : n ≤ 16) {j : Nat} (hj : j < n) : cq_A (cq_cc p n) (nI j).toNatClampNeg = 0 ↔ cq_cc p n j = 0 := by
  have := cq_cc_le p n j
  exact cq_g1 (by omega) (by omega)
theorem cq_x_isLeaf (hn : n ≤ 16) {j : Nat} (hj : j < n) (hp : post (cq_bI (!(cq_hc p n j)))) : wpX_isLeaf post (cq_X c l n p g m z op) (nI j) := by
  unfold wpX_isLeaf
  refine cq_x_isQueue hn hj (br_f (by decide) ⟨vp_in_nI (by omega) (by omega), cq_if (cq_c1 hn hj) (fun e => ?_) (fun e => ?_)⟩)
  · rw [cq_hc_f e] at hp
    exact hp
  · rw [cq_hc_t e] at hp
    exact hp
theorem cq_x_isUser_no {v : Int32} (h : v < 0 ∨ nI 4 ≤ v) (hp : post 0) : wpX_isUser post v := by
  by_cases h0 : v < 0
  · exact br_t h0 hp
  · exact br_f h0 (br_t (h.resolve_left h0) hp)
theorem cq_x_isUser {j : Nat} (hj : j < 4) (hp : post 1) : wpX_isUser post (nI j) :=
  br_f (nI_pos (by omega)) (pk_le 4 j (fun h => by omega) (fun _ => hp))
def cq_pd (z : cq_Z) (q k : Nat) : Bool := decide (0 < cq_r z (q * 4 + k))
def cq_by (n : Nat) (p : Nat → Nat) (z : cq_Z) (q : Nat) : Bool := decide (cq_cc p n q = 0) && (decide (0 < cq_u p z q) || cq_any (cq_pd z q) 4)
theorem cq_x_by (hn : n ≤ 16) (hD : cq_D T' B' n p z) (hB : B' < 2 ^ 30) {q : Nat} (hq : q < n) (hp : post (cq_bI (cq_any (cq_pd z q) 4))) : ∀ d k f, k + d = 4 → d < f → (∀ j, j < k → cq_pd z q j = false) → wX_isBusyLeaf_23 post (nI q) (nI c) (nI l) (nI n) (lN (cq_t z)) (cq_P p) (cq_A (cq_cc p n)) (cq_A g) (cq_A m) (cq_A (cq_u p z)) (cq_A (cq_r z)) (cq_A (cq_h z)) (cq_G (cq_lv z) (cq_id z)) (cq_A (cq_cl z)) (cq_A (cq_cu z)) op f (nI k) := by
  intro d
  induction d with
  | zero =>
    intro k f hk hf hh
    obtain ⟨f, rfl⟩ : ∃ k, f = k + 1 := ⟨f - 1, by omega⟩
    have e : cq_any (cq_pd z q) 4 = false := cq_any_f fun j hj => hh j (by omega)
    rw [e] at hp
    exact pk_le 4 k (fun _ => hp) (fun h => by omega)
  | succ d ih =>
    intro k f hk hf hh
    obtain ⟨f, rfl⟩ : ∃ k, f = k + 1 := ⟨f - 1, by omega⟩
    have hr := hD.2.1 (q * 4 + k)
    refine pk_le 4 k (fun h => by omega) (fun _ => ⟨by rw [cq_ix]; exact vp_in_nI (by omega) (by omega), cq_if (d := cq_r z (q * 4 + k) = 0) (by rw [cq_ix]; exact cq_g0 (by omega) (by omega)) (fun e => nm_r (nI_1 k) (ih (k + 1) f (by omega) (by omega) (fun j hj => ?_))) (fun e => ?_)⟩)
    · by_cases w : j = k
      · subst w
        unfold cq_pd
        simp [e]
      · exact hh j (by omega)
    · have e2 : cq_any (cq_pd z q) 4 = true := cq_any_iff.mpr ⟨k, by omega, by unfold cq_pd; simp; omega⟩
      rw [e2] at hp
      exact hp
theorem cq_x_isBusyLeaf (hn : n ≤ 16) (hD : cq_D T' B' n p z) (hB : B' < 2 ^ 30) {q : Nat} (hq : q < n) (hp : post (cq_bI (cq_by n p z q))) : wpX_isBusyLeaf post (cq_X c l n p g m z op) (nI q) := by
  have hu : cq_u p z q ≤ 64 := cq_us_le _ _ _ _
  unfold wpX_isBusyLeaf
  refine cq_x_isLeaf hn hq ?_
  unfold cq_by at hp
  by_cases e : cq_cc p n q = 0
  · rw [cq_hc_f e]
    rw [show decide (cq_cc p n q = 0) = true by simpa using e, Bool.true_and] at hp
    refine br_f (by decide) ⟨vp_in_nI (by omega) (by omega), cq_if (cq_g0 (f := cq_u p z) (by omega) (by omega)) (fun e2 => ?_) (fun e2 => ?_)⟩
    · rw [show decide (0 < cq_u p z q) = false by simp [e2], Bool.false_or] at hp
      exact Exists.intro 5 (cq_x_by hn hD hB hq hp 4 0 5 (by omega) (by omega) (fun j hj => by omega))
    · rw [show decide (0 < cq_u p z q) = true by simp; omega, Bool.true_or] at hp
      exact hp
  · rw [cq_hc_t e]
    rw [show decide (cq_cc p n q = 0) = false by simpa using e, Bool.false_and] at hp
    exact br_t rfl hp
theorem cq_cs_s (p g : Nat → Nat) (q j : Nat) : cq_cs p g q (j + 1) = cq_cs p g q j + (if !(j == 0) && (p j == q) then g j else 0) := rfl
theorem cq_pe0 {q : Nat} (hq : q < 2 ^ 31) : ¬ cq_P p (nI 0).toNatClampNeg = nI q := by
  rw [cq_rP0]
  exact fun e => cq_m1 hq e.symm
theorem cq_x_cg (hJ : cq_J c l n p g m) {q : Nat} (hq : q < 2 ^ 31) (hp : post (nI (cq_cs p g q n))) : ∀ d j f, j + d = n → d < f → wX_childGuarantees_4 post (nI q) (nI c) (nI l) (nI n) (lN (cq_t z)) (cq_P p) (cq_A (cq_cc p n)) (cq_A g) (cq_A m) (cq_A (cq_u p z)) (cq_A (cq_r z)) (cq_A (cq_h z)) (cq_G (cq_lv z) (cq_id z)) (cq_A (cq_cl z)) (cq_A (cq_cu z)) op f (nI (cq_cs p g q j)) (nI j) := by
  obtain ⟨⟨h1, h2, h3, h4, hn⟩, hT, hg, hm, h0⟩ := hJ
  intro d
  induction d with
  | zero =>
    intro j f hj hf
    obtain ⟨f, rfl⟩ : ∃ k, f = k + 1 := ⟨f - 1, by omega⟩
    have e : j = n := by omega
    subst e
    exact pk_le j j (fun _ => hp) (fun h => by omega)
  | succ d ih =>
    intro j f hj hf
    obtain ⟨f, rfl⟩ : ∃ k, f = k + 1 := ⟨f - 1, by omega⟩
    have ih' := ih (j + 1) f (by omega) (by omega)
    rw [cq_cs_s] at ih'
    refine pk_le n j (fun h => by omega) (fun _ => ⟨vp_in_nI (by omega) (by omega), ?_⟩)
    by_cases e0 : j = 0
    · subst e0
      exact br_f (cq_pe0 hq) (nm_r (nI_1 0) ih')
    · refine cq_if (cq_pe hT hn e0 (by omega) hq) (fun e => ⟨vp_in_nI (by omega) (by omega), nm_r (by rw [cq_rA g (by omega), nI_add]) (nm_r (nI_1 j) ?_)⟩) (fun e => nm_r (nI_1 j) ?_)
      · rw [if_pos (by simp [e, e0])] at ih'
        exact ih'
      · rw [if_neg (by simp [e])] at ih'
        exact ih'
theorem cq_x_childGuarantees (hJ : cq_J c l n p g m) {q : Nat} (hq : q < 2 ^ 31) (hp : post (nI (cq_cs p g q n))) : wpX_childGuarantees post (cq_X c l n p g m z op) (nI q) :=
  Exists.intro (n + 1) (cq_x_cg hJ hq hp n 0 (n + 1) (by omega) (by omega))
theorem cq_x_sh {a : Int64} {F : Nat → Bool} (hF : ∀ i, i < 64 → (cq_G (cq_lv z) (cq_id z) i = a ↔ F i = true)) : ∀ d i f, i + d = 64 → d < f → post (cq_oI (cq_fnd F i d)) → wX_slotHolding_2 post a (nI c) (nI l) (nI n) (lN (cq_t z)) (cq_P p) (cq_A (cq_cc p n)) (cq_A g) (cq_A m) (cq_A (cq_u p z)) (cq_A (cq_r z)) (cq_A (cq_h z)) (cq_G (cq_lv z) (cq_id z)) (cq_A (cq_cl z)) (cq_A (cq_cu z)) op f (nI i) := by
  intro d
  induction d with
  | zero =>
    intro i f hi hf hp
    obtain ⟨f, rfl⟩ : ∃ k, f = k + 1 := ⟨f - 1, by omega⟩
    exact pk_le 64 i (fun _ => hp) (fun h => by omega)
  | succ d ih =>
    intro i f hi hf hp
    obtain ⟨f, rfl⟩ : ∃ k, f = k + 1 := ⟨f - 1, by omega⟩
    rw [cq_fnd_s] at hp
    refine pk_le 64 i (fun h => by omega) (fun _ => ⟨vp_in_nI (by omega) (by omega), cq_if (d := F i = true) (by rw [nI_clamp (by omega)]; exact hF i (by omega)) (fun e => ?_) (fun e => nm_r (nI_1 i) (ih (i + 1) f (by omega) (by omega) ?_))⟩)
    · rw [if_pos e] at hp
      exact hp
    · rw [if_neg e] at hp
      exact hp
theorem cq_x_slotHolding {a : Int64} {F : Nat → Bool} (hF : ∀ i, i < 64 → (cq_G (cq_lv z) (cq_id z) i = a ↔ F i = true)) (hp : post (cq_oI (cq_fnd F 0 64))) : wpX_slotHolding post (cq_X c l n p g m z op) a :=
  Exists.intro 65 (cq_x_sh hF 64 0 65 (by omega) (by omega) hp)
def cq_at (z : cq_Z) (d i : Nat) : Bool := cq_lv z i && (cq_id z i == d)
theorem cq_F0 (hD : cq_D T' B' n p z) (hT' : T' < 2 ^ 31) (i : Nat) : cq_G (cq_lv z) (cq_id z) i = 0 ↔ cq_fr z i = true := by
  unfold cq_fr
  cases e : cq_lv z i with
  | false =>
    rw [cq_G_f e]
    simp
  | true =>
    obtain ⟨_, _, a, b, _⟩ := hD.2.2.2 i e
    have := hD.1.2
    rw [cq_G_t e, show (0 : Int64) = lN 0 from rfl, lN_eq (by omega) (by decide)]
    simp
    omega
theorem cq_Fd (hD : cq_D T' B' n p z) (hT' : T' < 2 ^ 31) {d : Nat} (h0 : 0 < d) (hd : d < 2 ^ 31) (i : Nat) : cq_G (cq_lv z) (cq_id z) i = lN d ↔ cq_at z d i = true := by
  unfold cq_at
  cases e : cq_lv z i with
  | false =>
    rw [cq_G_f e, show (0 : Int64) = lN 0 from rfl, lN_eq (by decide) hd]
    simp
    omega
  | true =>
    obtain ⟨_, _, a, b, _⟩ := hD.2.2.2 i e
    have := hD.1.2
    rw [cq_G_t e, lN_eq (by omega) hd]
    simp
theorem cq_x_slotOf (hD : cq_D T' B' n p z) (hT' : T' < 2 ^ 31) {d : Nat} (h0 : 0 < d) (hd : d < 2 ^ 31) (hp : post (cq_oI (cq_fnd (cq_at z d) 0 64))) : wpX_slotOf post (cq_X c l n p g m z op) (nI d) := by
  refine br_t (by rw [show (0 : Int32) = nI 0 from rfl]; exact nI_lt h0 hd) ?_
  rw [nI_l hd]
  exact cq_x_slotHolding (fun i _ => cq_Fd hD hT' h0 hd i) hp
theorem cq_x_ed (hn : n ≤ 16) (h64 : l ≤ 64) (hD : cq_D T' B' n p z) (hB : B' < 2 ^ 30) {x : Nat} (hx : x < n) {post : Int64 → Prop} (hp : post (lN (cq_e l z x))) : ∀ d k f, k + d = 4 → d < f → wX_eligibleDemand_5 post (nI x) (nI c) (nI l) (nI n) (lN (cq_t z)) (cq_P p) (cq_A (cq_cc p n)) (cq_A g) (cq_A m) (cq_A (cq_u p z)) (cq_A (cq_r z)) (cq_A (cq_h z)) (cq_G (cq_lv z) (cq_id z)) (cq_A (cq_cl z)) (cq_A (cq_cu z)) op f (lN (cq_E (cq_r z) (cq_h z) l x k)) (nI k) := by
  intro d
  induction d with
  | zero =>
    intro k f hk hf
    obtain ⟨f, rfl⟩ : ∃ k, f = k + 1 := ⟨f - 1, by omega⟩
    have e : k = 4 := by omega
    subst e
    exact pk_le 4 4 (fun _ => hp) (fun h => by omega)
  | succ d ih =>
    intro k f hk hf
    obtain ⟨f, rfl⟩ : ∃ k, f = k + 1 := ⟨f - 1, by omega⟩
    have ih' := ih (k + 1) f (by omega) (by omega)
    rw [cq_E_s] at ih'
    have hh : cq_h z (x * 4 + k) ≤ 64 := cq_hs_le _ _ _ _
    have hr := hD.2.1 (x * 4 + k)
    have ix : vp_in (nI x * 4 + nI k) 64 := by rw [cq_ix]; exact vp_in_nI (by omega) (by omega)
    refine pk_le 4 k (fun h => by omega) (fun _ => ⟨ix, nm_r (by rw [cq_ix, cq_rA _ (by omega)]) ⟨ix, ?_⟩⟩)
    by_cases hl : l ≤ cq_h z (x * 4 + k)
    · refine nm_r (e' := nI l - nI (cq_h z (x * 4 + k))) (by rw [cq_ix, cq_rA _ (by omega)]) (br_t ((cq_s1 h64 hh).mpr hl) (nm_r (nI_1 k) ?_))
      rw [show min (cq_r z (x * 4 + k)) (l - cq_h z (x * 4 + k)) = 0 by omega] at ih'
      exact ih'
    · refine nm_r (e' := nI (l - cq_h z (x * 4 + k))) (by rw [cq_ix, cq_rA _ (by omega), pk_sub (by omega)]) (br_f (nI_nle (by omega) (by omega)) (pk_le (l - cq_h z (x * 4 + k)) (cq_r z (x * 4 + k)) (fun hle => nm_r (by rw [nI_l (by omega), lN_add]) (nm_r (nI_1 k) ?_)) (fun hle => nm_r (by rw [nI_l (by omega), lN_add]) (nm_r (nI_1 k) ?_))))
      · rw [show min (cq_r z (x * 4 + k)) (l - cq_h z (x * 4 + k)) = l - cq_h z (x * 4 + k) by omega] at ih'
        exact ih'
      · rw [show min (cq_r z (x * 4 + k)) (l - cq_h z (x * 4 + k)) = cq_r z (x * 4 + k) by omega] at ih'
        exact ih'
theorem cq_x_eligibleDemand (hn : n ≤ 16) (h64 : l ≤ 64) (hD : cq_D T' B' n p z) (hB : B' < 2 ^ 30) {x : Nat} (hx : x < n) {post : Int64 → Prop} (hp : post (lN (cq_e l z x))) : wpX_eligibleDemand post (cq_X c l n p g m z op) (nI x) :=
  Exists.intro 5 (cq_x_ed hn h64 hD hB hx hp 4 0 5 (by omega) (by omega))
theorem cq_x_rm (hJ : cq_J c l n p g m) : ∀ d x i f, x < d → x < n → x + i ≤ 15 → d < f → post (cq_bI (cq_rm p m (cq_u p z) x)) → wX_pathHasRoom_4 post (nI c) (nI l) (nI n) (lN (cq_t z)) (cq_P p) (cq_A (cq_cc p n)) (cq_A g) (cq_A m) (cq_A (cq_u p z)) (cq_A (cq_r z)) (cq_A (cq_h z)) (cq_G (cq_lv z) (cq_id z)) (cq_A (cq_cl z)) (cq_A (cq_cu z)) op f (nI x) (nI i) := by
  obtain ⟨⟨h1, h2, h3, h4, hn⟩, hT, hg, hm, h0⟩ := hJ
  intro d
  induction d with
  | zero =>
    intro x i f h
    omega
  | succ d ih =>
    intro x i f hd hx hi hf hp
    obtain ⟨f, rfl⟩ : ∃ k, f = k + 1 := ⟨f - 1, by omega⟩
    have hu : cq_u p z x ≤ 64 := cq_us_le _ _ _ _
    have hmx := hm x
    have ix : vp_in (nI x) 16 := vp_in_nI (by omega) (by omega)
    refine pk_le 16 i (fun h => by omega) (fun _ => br_f (cq_m1 (by omega)) ⟨ix, ix, cq_if (d := cq_u p z x < m x) (by rw [cq_rA m (by omega), cq_rA (cq_u p z) (by omega)]; exact nI_ltI (by omega) (by omega)) (fun e => ⟨ix, ?_⟩) (fun e => ?_)⟩)
    · by_cases h0 : x = 0
      · subst h0
        refine nm_r (cq_rP0 p) (nm_r (nI_1 i) ?_)
        obtain ⟨f, rfl⟩ : ∃ k, f = k + 1 := ⟨f - 1, by omega⟩
        rw [cq_rm_0 e] at hp
        exact pk_le 16 (i + 1) (fun _ => hp) (fun _ => br_t rfl hp)
      · have hpx := hT x (by omega) hx
        rw [cq_rm_p hT h0 hx e] at hp
        exact nm_r (cq_rPp p h0 (by omega)) (nm_r (nI_1 i) (ih (p x) (i + 1) f (by omega) (by omega) (by omega) (by omega) hp))
    · rw [cq_rm_f hT hx (by omega)] at hp
      exact hp
theorem cq_x_pathHasRoom (hJ : cq_J c l n p g m) {x : Nat} (hx : x < n) (hp : post (cq_bI (cq_rm p m (cq_u p z) x))) : wpX_pathHasRoom post (cq_X c l n p g m z op) (nI x) :=
  Exists.intro (x + 2) (cq_x_rm hJ (x + 1) x 0 (x + 2) (by omega) hx (by have := hJ.1; omega) (by omega) hp)
theorem cq_x_isLighter (hJ : cq_J c l n p g m) {a b : Nat} (ha : a < n) (hb : b < n) (hp : post (cq_bI (cq_lt g (cq_u p z) a b))) : wpX_isLighter post (cq_X c l n p g m z op) (nI a) (nI b) := by
  obtain ⟨⟨h1, h2, h3, h4, hn⟩, hT, hg, hm, h0⟩ := hJ
  have ga := hg a
  have gb := hg b
  have ua : cq_u p z a ≤ 64 := cq_us_le _ _ _ _
  have ub : cq_u p z b ≤ 64 := cq_us_le _ _ _ _
  have ia : vp_in (nI a) 16 := vp_in_nI (by omega) (by omega)
  have ib : vp_in (nI b) 16 := vp_in_nI (by omega) (by omega)
  have ga0 : cq_A g (nI a).toNatClampNeg ≤ 0 ↔ g a = 0 := cq_g0 (by omega) (by omega)
  have gb0 : cq_A g (nI b).toNatClampNeg ≤ 0 ↔ g b = 0 := cq_g0 (by omega) (by omega)
  have ga1 : cq_A g (nI a).toNatClampNeg = 0 ↔ g a = 0 := cq_g1 (by omega) (by omega)
  have gb1 : cq_A g (nI b).toNatClampNeg = 0 ↔ g b = 0 := cq_g1 (by omega) (by omega)
  unfold cq_lt at hp
  by_cases xa : g a = 0
  · rw [if_neg (by omega)] at hp
    refine ⟨ia, br_t (ga0.mpr xa) ⟨ia, br_t (ga1.mpr xa) ⟨ib, ?_⟩⟩⟩
    by_cases xb : g b = 0
    · rw [if_neg (by omega)] at hp
      refine br_t (gb1.mpr xb) ⟨ia, ib, cq_if (d := cq_u p z b ≤ cq_u p z a) (by rw [cq_rA (cq_u p z) (by omega), cq_rA (cq_u p z) (by omega)]; exact nI_leI (by omega) (by omega)) (fun h => ?_) (fun h => ?_)⟩
      · rw [show decide (cq_u p z a < cq_u p z b) = false by simpa using h] at hp
        exact hp
      · rw [show decide (cq_u p z a < cq_u p z b) = true by simpa using h] at hp
        exact hp
    · rw [if_pos (by omega)] at hp
      exact br_f (fun w => xb (gb1.mp w)) ⟨ia, br_t (ga0.mpr xa) hp⟩
  · rw [if_pos (by omega)] at hp
    by_cases xb : g b = 0
    · rw [if_neg (by omega)] at hp
      exact ⟨ia, br_f (fun w => xa (ga0.mp w)) ⟨ib, br_t (gb0.mpr xb) ⟨ia, br_f (fun w => xa (ga1.mp w)) ⟨ia, br_f (fun w => xa (ga0.mp w)) hp⟩⟩⟩⟩
    · rw [if_pos (by omega)] at hp
      have m1 : cq_u p z b * g a ≤ 64 * 64 := Nat.mul_le_mul ub ga
      have m2 : cq_u p z a * g b ≤ 64 * 64 := Nat.mul_le_mul ua gb
      refine ⟨ia, br_f (fun w => xa (ga0.mp w)) ⟨ib, br_f (fun w => xb (gb0.mp w)) ⟨ia, ib, ib, ia, cq_if (d := cq_u p z b * g a ≤ cq_u p z a * g b) (by rw [cq_rA g (by omega), cq_rA g (by omega), cq_rA (cq_u p z) (by omega), cq_rA (cq_u p z) (by omega), pk_mul, pk_mul]; exact nI_leI (by omega) (by omega)) (fun h => ?_) (fun h => ?_)⟩⟩⟩
      · rw [show decide (cq_u p z a * g b < cq_u p z b * g a) = false by simpa using h] at hp
        exact hp
      · rw [show decide (cq_u p z a * g b < cq_u p z b * g a) = true by simpa using h] at hp
        exact hp
end
end
section
/-! the class: paths, open marks, grant, fill -/
def cq_Pk (l n : Nat) (p m : Nat → Nat) (z : cq_Z) (k j : Nat) : Prop := ∃ i, k ≤ i ∧ i < n ∧ i ≠ 0 ∧ p i = j ∧ cq_on l n p m z i = true
def cq_Iv (l n : Nat) (p m : Nat → Nat) (z : cq_Z) (k : Nat) (op : Nat → Int32) : Prop := (∀ j, j < k → ∃ b : Bool, op j = cq_bI b ∧ (b = true ↔ cq_Pk l n p m z k j)) ∧ (∀ j, k ≤ j → j < n → op j = cq_bI (cq_on l n p m z j))
theorem cq_m1s (k : Nat) : nI k + (-1) = nI k - 1 := by
  cases k with
  | zero => rfl
  | succ k => rw [pk_m1, nI_pred]
section
variable {c l n : Nat} {p g m : Nat → Nat} {z : cq_Z} {op : Nat → Int32} {post : SX → Prop} {A B : Prop} {T' B' : Nat}
theorem cq_x_path {fu fl fq : Int32} {ft : Int64} {cc gu mx rq he : Nat → Int32} {si : Nat → Int64} {sl su oq : Nat → Int32} (hT : cq_T p n) (hn : n ≤ 16) (ch : Int32) : ∀ d x i f (us : Nat → Int32), x < d → x < n → x + i ≤ 15 → d < f → post (fu, fl, fq, ft, cq_P p, cc, gu, mx, (fun q => if cq_un p x q then us q + ch else us q), rq, he, si, sl, su, oq) → wX_addToPath_5 post ch fu fl fq ft f (nI x) (nI i) (cq_P p) cc gu mx us rq he si sl su oq := by
  intro d
  induction d with
  | zero =>
    intro x i f us h
    omega
  | succ d ih =>
    intro x i f us hd hx hi hf hp
    obtain ⟨f, rfl⟩ : ∃ k, f = k + 1 := ⟨f - 1, by omega⟩
    have ix : vp_in (nI x) 16 := vp_in_nI (by omega) (by omega)
    refine pk_le 16 i (fun h => by omega) (fun _ => br_f (cq_m1 (by omega)) ⟨ix, ix, nm_r (e' := upd us x (us x + ch)) (by rw [nI_clamp (by omega)]) ⟨ix, ?_⟩⟩)
    by_cases h0 : x = 0
    · subst h0
      refine nm_r (cq_rP0 p) (nm_r (nI_1 i) ?_)
      obtain ⟨f, rfl⟩ : ∃ k, f = k + 1 := ⟨f - 1, by omega⟩
      have e : upd us 0 (us 0 + ch) = fun q => if cq_un p 0 q then us q + ch else us q := by
        funext q
        rw [cq_un_00]
        unfold upd
        by_cases w : q = 0
        · subst w
          rw [if_pos rfl, if_pos (by rfl)]
        · rw [if_neg w, if_neg (by simp; omega)]
      rw [← e] at hp
      exact pk_le 16 (i + 1) (fun _ => hp) (fun _ => br_t rfl hp)
    · have hpx := hT x (by omega) hx
      refine nm_r (cq_rPp p h0 (by omega)) (nm_r (nI_1 i) (ih (p x) (i + 1) f _ (by omega) (by omega) (by omega) (by omega) ?_))
      have e : (fun q => if cq_un p (p x) q then upd us x (us x + ch) q + ch else upd us x (us x + ch) q) = fun q => if cq_un p x q then us q + ch else us q := by
        funext q
        unfold upd
        by_cases w : q = x
        · subst w
          rw [cq_un_self, cq_un_gt hT (by omega) hpx, if_pos rfl, if_neg (by decide), if_pos rfl]
        · rw [cq_un_ne hT h0 hx (fun e => w e.symm), if_neg w]
      rw [e]
      exact hp
theorem cq_x_addToPath {fu fl fq : Int32} {ft : Int64} {cc gu mx us rq he : Nat → Int32} {si : Nat → Int64} {sl su oq : Nat → Int32} (hT : cq_T p n) (hn : n ≤ 16) {ch : Int32} {x : Nat} (hx : x < n) (hp : post (fu, fl, fq, ft, cq_P p, cc, gu, mx, (fun q => if cq_un p x q then us q + ch else us q), rq, he, si, sl, su, oq)) : wpX_addToPath post (fu, fl, fq, ft, cq_P p, cc, gu, mx, us, rq, he, si, sl, su, oq) (nI x) ch :=
  Exists.intro (x + 2) (cq_x_path hT hn ch (x + 1) x 0 (x + 2) us (by omega) hx (by omega) (by omega) hp)
theorem cq_u_del {z : cq_Z} {v : Nat} (p : Nat → Nat) (hv : v < 64) (hl : cq_lv z v = true) (q : Nat) : cq_u p z q = cq_u p (cq_del z v) q + (if cq_un p (cq_cl z v) q then 1 else 0) := cq_us_rm hv hl q
theorem cq_h_del {z : cq_Z} {v : Nat} (hv : v < 64) (hl : cq_lv z v = true) (j : Nat) : cq_h z j = cq_h (cq_del z v) j + (if cq_cl z v * 4 + cq_cu z v == j then 1 else 0) := cq_hs_rm hv hl j
theorem cq_x_remove (hT : cq_T p n) (hn : n ≤ 16) (hD : cq_D T' B' n p z) {s : Nat} (hs : s < 64) (hl : cq_lv z s = true) (hp : post (cq_X c l n p g m (cq_del z s) op)) : wpX_remove post (cq_X c l n p g m z op) (nI s) := by
  obtain ⟨a1, a2, a3, a4, a5⟩ := hD.2.2.2 s hl
  have is : vp_in (nI s) 64 := vp_in_nI (by omega) (by omega)
  have ix : vp_in (nI (cq_cl z s) * 4 + nI (cq_cu z s)) 64 := by rw [cq_ix]; exact vp_in_nI (by omega) (by omega)
  have hcu : cq_A (cq_cu z) (nI s).toNatClampNeg = nI (cq_cu z s) := cq_rA _ (by omega)
  have hh := cq_h_del hs hl
  have hu := cq_u_del p hs hl
  have eh : cq_up (cq_h z) (cq_cl z s * 4 + cq_cu z s) (cq_h z (cq_cl z s * 4 + cq_cu z s) - 1) = cq_h (cq_del z s) := by
    funext j
    have := hh j
    by_cases w : j = cq_cl z s * 4 + cq_cu z s
    · subst w
      rw [if_pos (by simp)] at this
      rw [cq_up_s, this]
      rfl
    · rw [if_neg (by simp; omega)] at this
      rw [cq_up_n w, this]
      rfl
  have eu : (fun q => if cq_un p (cq_cl z s) q then cq_A (cq_u p z) q + (-1) else cq_A (cq_u p z) q) = cq_A (cq_u p (cq_del z s)) := by
    funext q
    have := hu q
    unfold cq_A
    by_cases w : cq_un p (cq_cl z s) q = true
    · rw [if_pos w] at this ⊢
      rw [this, pk_m1]
    · rw [if_neg w] at this ⊢
      rw [this]
      rfl
  have hpos : 0 < cq_h z (cq_cl z s * 4 + cq_cu z s) := by
    have := hh (cq_cl z s * 4 + cq_cu z s)
    rw [if_pos (by simp)] at this
    omega
  refine ⟨is, nm_r (cq_rA _ (by omega)) ?_⟩
  rw [hcu]
  refine ⟨is, ix, ix, nm_r (cq_w_dec (by omega) hpos) ⟨is, nm_r (e' := cq_G (cq_lv (cq_del z s)) (cq_id z)) (by rw [nI_clamp (by omega)]; exact cq_G_rm _ _ _) (cq_x_addToPath hT hn a1 ?_)⟩⟩
  rw [eh, eu]
  exact hp
theorem cq_x_m72 (hT : cq_T p n) (hn : n ≤ 16) {J : Int32 → (Nat → Int32) → (Nat → Int32) → (Nat → Int32) → (Nat → Int32) → (Nat → Int32) → (Nat → Int32) → (Nat → Int32) → (Nat → Int64) → (Nat → Int32) → (Nat → Int32) → (Nat → Int32) → Prop} {k : Nat} (hk : k < n) (h1 : op k = cq_bI (cq_on l n p m z k)) (h2 : ∀ j, j < k → ∃ b : Bool, op j = cq_bI b ∧ (b = true ↔ cq_Pk l n p m z (k + 1) j)) (h3 : ∀ j, k + 1 ≤ j → j < n → op j = cq_bI (cq_on l n p m z j)) (hJ : ∀ op', cq_Iv l n p m z k op' → J (nI k - 1) (cq_P p) (cq_A (cq_cc p n)) (cq_A g) (cq_A m) (cq_A (cq_u p z)) (cq_A (cq_r z)) (cq_A (cq_h z)) (cq_G (cq_lv z) (cq_id z)) (cq_A (cq_cl z)) (cq_A (cq_cu z)) op') : wX_markOpenQueues_72 post J (nI k) (nI c) (nI l) (nI n) (lN (cq_t z)) (cq_P p) (cq_A (cq_cc p n)) (cq_A g) (cq_A m) (cq_A (cq_u p z)) (cq_A (cq_r z)) (cq_A (cq_h z)) (cq_G (cq_lv z) (cq_id z)) (cq_A (cq_cl z)) (cq_A (cq_cu z)) op := by
  have ik : vp_in (nI k) 16 := vp_in_nI (by omega) (by omega)
  have ek : op (nI k).toNatClampNeg = cq_bI (cq_on l n p m z k) := by rw [nI_clamp (by omega)]; exact h1
  have pk' : ∀ j, cq_Pk l n p m z (k + 1) j → cq_Pk l n p m z k j := fun j ⟨i, a, b⟩ => ⟨i, by omega, b⟩
  have kp : ∀ j, cq_Pk l n p m z k j → cq_Pk l n p m z (k + 1) j ∨ (k ≠ 0 ∧ p k = j ∧ cq_on l n p m z k = true) := by
    rintro j ⟨i, a, b, d, e, f⟩
    by_cases w : i = k
    · subst w
      exact Or.inr ⟨d, e, f⟩
    · exact Or.inl ⟨i, by omega, b, d, e, f⟩
  have hge : ∀ j, k ≤ j → j < n → op j = cq_bI (cq_on l n p m z j) := by
    intro j a b
    by_cases w : j = k
    · subst w
      exact h1
    · exact h3 j (by omega) b
  refine ⟨ik, ?_⟩
  rw [ek]
  refine cq_b0 (fun e => nm_r (cq_m1s k) (hJ op ⟨fun j hj => ?_, hge⟩)) (fun e => ?_)
  · obtain ⟨b, b1, b2⟩ := h2 j hj
    refine ⟨b, b1, b2.trans ⟨pk' j, fun w => ?_⟩⟩
    rcases kp j w with w | ⟨_, _, w⟩
    · exact w
    · rw [e] at w
      exact absurd w (by decide)
  · by_cases k0 : k = 0
    · subst k0
      exact br_t rfl (nm_r (cq_m1s 0) (hJ op ⟨fun j hj => by omega, hge⟩))
    · have hpk := hT k (by omega) hk
      refine br_f (nI_ne0 (by omega) (by omega)) ⟨ik, ?_⟩
      rw [cq_rPp p k0 (by omega)]
      refine ⟨vp_in_nI (by omega) (by omega), nm_r (e' := upd op (p k) 1) (by rw [nI_clamp (by omega), cq_nar1]) (nm_r (cq_m1s k) (hJ _ ⟨fun j hj => ?_, fun j a b => ?_⟩))⟩
      · by_cases w : j = p k
        · subst w
          exact ⟨true, pk_us, ⟨fun _ => ⟨k, Nat.le_refl _, hk, k0, rfl, e⟩, fun _ => rfl⟩⟩
        · obtain ⟨b, b1, b2⟩ := h2 j hj
          refine ⟨b, by rw [pk_un w]; exact b1, b2.trans ⟨pk' j, fun w' => ?_⟩⟩
          rcases kp j w' with w' | ⟨_, w', _⟩
          · exact w'
          · exact absurd w'.symm w
      · rw [pk_un (by omega)]
        exact hge j a b
theorem cq_x_m30 (hJ : cq_J c l n p g m) (hD : cq_D T' B' n p z) (hB : B' < 2 ^ 30) (hp : ∀ op', (∀ j, j < n → op' j = cq_bI (cq_on l n p m z j)) → post (cq_X c l n p g m z op')) : ∀ k f op, k ≤ n → k < f → cq_Iv l n p m z k op → wX_markOpenQueues_30 post (nI c) (nI l) (nI n) (lN (cq_t z)) f (nI k - 1) (cq_P p) (cq_A (cq_cc p n)) (cq_A g) (cq_A m) (cq_A (cq_u p z)) (cq_A (cq_r z)) (cq_A (cq_h z)) (cq_G (cq_lv z) (cq_id z)) (cq_A (cq_cl z)) (cq_A (cq_cu z)) op := by
  have hJ' := hJ
  obtain ⟨⟨h1, h2, h3, h4, hn⟩, hT, hg, hm, h0⟩ := hJ
  intro k
  induction k with
  | zero =>
    intro f op hk hf hI
    obtain ⟨f, rfl⟩ : ∃ k, f = k + 1 := ⟨f - 1, by omega⟩
    exact br_t (by decide) (hp op (fun j hj => hI.2 j (by omega) hj))
  | succ k ih =>
    intro f op hk hf hI
    obtain ⟨f, rfl⟩ : ∃ k, f = k + 1 := ⟨f - 1, by omega⟩
    obtain ⟨i1, i2⟩ := hI
    rw [nI_pred]
    have ik : vp_in (nI k) 16 := vp_in_nI (by omega) (by omega)
    have he := cq_e_le l z k
    have fin : ∀ op', op' k = cq_bI (cq_on l n p m z k) → (∀ j, j ≠ k → op' j = op j) → wX_markOpenQueues_72 post (wX_markOpenQueues_30 post (nI c) (nI l) (nI n) (lN (cq_t z)) f) (nI k) (nI c) (nI l) (nI n) (lN (cq_t z)) (cq_P p) (cq_A (cq_cc p n)) (cq_A g) (cq_A m) (cq_A (cq_u p z)) (cq_A (cq_r z)) (cq_A (cq_h z)) (cq_G (cq_lv z) (cq_id z)) (cq_A (cq_cl z)) (cq_A (cq_cu z)) op' := by
      intro op' e1 e2
      refine cq_x_m72 hT hn (by omega) e1 (fun j hj => ?_) (fun j a b => ?_) (fun op'' h => ih f op'' (by omega) (by omega) h)
      · obtain ⟨b, b1, b2⟩ := i1 j (by omega)
        exact ⟨b, (e2 j (by omega)).trans b1, b2⟩
      · exact (e2 j (by omega)).trans (i2 j a b)
    refine br_f (nI_pos (by omega)) ⟨ik, cq_if (cq_c1 hn (by omega)) (fun e => ?_) (fun e => ?_)⟩
    · have eo : cq_on l n p m z k = cq_le l n p m z k := cq_op_leaf hT (by omega) e
      have ele : cq_le l n p m z k = (decide (cq_cc p n k = 0) && decide (0 < cq_e l z k) && cq_rm p m (cq_u p z) k) := rfl
      rw [show decide (cq_cc p n k = 0) = true by simpa using e, Bool.true_and] at ele
      have no : cq_on l n p m z k = false → wX_markOpenQueues_70 post (wX_markOpenQueues_30 post (nI c) (nI l) (nI n) (lN (cq_t z)) f) (nI k) (nI k) (nI c) (nI l) (nI n) (lN (cq_t z)) (cq_P p) (cq_A (cq_cc p n)) (cq_A g) (cq_A m) (cq_A (cq_u p z)) (cq_A (cq_r z)) (cq_A (cq_h z)) (cq_G (cq_lv z) (cq_id z)) (cq_A (cq_cl z)) (cq_A (cq_cu z)) op := by
        intro w
        refine ⟨ik, nm_r (e' := upd op k 0) (by rw [nI_clamp (by omega), cq_nar0]) (fin _ ?_ (fun j hj => pk_un hj))⟩
        rw [w]
        exact pk_us
      refine cq_x_eligibleDemand hn h3 hD hB (by omega) ?_
      by_cases e5 : 0 < cq_e l z k
      · refine br_f (by rw [show (0 : Int64) = lN 0 from rfl, lN_le (by omega) (by decide)]; omega) (cq_x_pathHasRoom hJ' (by omega) (cq_b0 (fun e6 => no ?_) (fun e6 => ⟨ik, nm_r (e' := upd op k 1) (by rw [nI_clamp (by omega), cq_nar1]) (fin _ ?_ (fun j hj => pk_un hj))⟩)))
        · rw [eo, ele, e6, Bool.and_false]
        · rw [eo, ele, e6, show decide (0 < cq_e l z k) = true by simpa using e5]
          exact pk_us
      · refine br_t (by rw [show (0 : Int64) = lN 0 from rfl, lN_le (by omega) (by decide)]; omega) (no ?_)
        rw [eo, ele, show decide (0 < cq_e l z k) = false by simpa using e5, Bool.false_and]
    · refine fin op ?_ (fun j _ => rfl)
      obtain ⟨b, b1, b2⟩ := i1 k (by omega)
      rw [b1]
      congr 1
      rw [Bool.eq_iff_iff, b2]
      refine Iff.trans ?_ (cq_op_in hT e).symm
      constructor
      · rintro ⟨i, x1, x2, x3, x4, x5⟩
        exact ⟨i, x3, x2, x4, x5⟩
      · rintro ⟨i, x3, x2, x4, x5⟩
        have := hT i (by omega) x2
        exact ⟨i, by omega, x2, x3, x4, x5⟩
theorem cq_x_m2 (hJ : cq_J c l n p g m) (hD : cq_D T' B' n p z) (hB : B' < 2 ^ 30) (hp : ∀ op', (∀ j, j < n → op' j = cq_bI (cq_on l n p m z j)) → post (cq_X c l n p g m z op')) : ∀ d j f op, j + d = n → d < f → (∀ i, i < j → op i = 0) → wX_markOpenQueues_2 post (nI c) (nI l) (nI n) (lN (cq_t z)) f (nI j) (cq_P p) (cq_A (cq_cc p n)) (cq_A g) (cq_A m) (cq_A (cq_u p z)) (cq_A (cq_r z)) (cq_A (cq_h z)) (cq_G (cq_lv z) (cq_id z)) (cq_A (cq_cl z)) (cq_A (cq_cu z)) op := by
  have hn := hJ.1.2.2.2.2
  intro d
  induction d with
  | zero =>
    intro j f op hj hf hh
    obtain ⟨f, rfl⟩ : ∃ k, f = k + 1 := ⟨f - 1, by omega⟩
    refine pk_le n j (fun _ => nm_e (Exists.intro (n + 1) (cq_x_m30 hJ hD hB hp n (n + 1) op (Nat.le_refl _) (by omega) ⟨fun i hi => ⟨false, hh i (by omega), fun w => absurd w (by decide), ?_⟩, fun i a b => by omega⟩))) (fun h => by omega)
    rintro ⟨k, a, b, _⟩
    omega
  | succ d ih =>
    intro j f op hj hf hh
    obtain ⟨f, rfl⟩ : ∃ k, f = k + 1 := ⟨f - 1, by omega⟩
    refine pk_le n j (fun h => by omega) (fun _ => ⟨vp_in_nI (by omega) (by omega), nm_r (e' := upd op j 0) (by rw [nI_clamp (by omega), cq_nar0]) (nm_r (nI_1 j) (ih (j + 1) f _ (by omega) (by omega) (fun i hi => ?_)))⟩)
    by_cases w : i = j
    · subst w
      exact pk_us
    · rw [pk_un w]
      exact hh i (by omega)
theorem cq_x_mark (hJ : cq_J c l n p g m) (hD : cq_D T' B' n p z) (hB : B' < 2 ^ 30) (hp : ∀ op', (∀ j, j < n → op' j = cq_bI (cq_on l n p m z j)) → post (cq_X c l n p g m z op')) : wpX_markOpenQueues post (cq_X c l n p g m z op) :=
  Exists.intro (n + 1) (cq_x_m2 hJ hD hB hp n 0 (n + 1) op (by omega) (by omega) (fun i hi => by omega))
end
end
section
/-! the class: the lightest leaf, grant, fill -/
section
variable {c l n : Nat} {p g m : Nat → Nat} {z : cq_Z} {op : Nat → Int32} {A B : Prop} {T' B' : Nat}
theorem cq_lc_s (l n : Nat) (p g m : Nat → Nat) (z : cq_Z) (q i : Nat) : cq_lc l n p g m z q (i + 1) = (match cq_lc l n p g m z q i with
    | none => if cq_oc l n p m z q i then some i else none
    | some j => if cq_oc l n p m z q i && cq_lt g (cq_u p z) i j then some i else some j) := rfl
theorem cq_x_lc (hJ : cq_J c l n p g m) (hO : ∀ j, j < n → op j = cq_bI (cq_on l n p m z j)) {q : Nat} (hq : q < 2 ^ 31) {post : Int32 → Prop} (hp : post (cq_oI (cq_lc l n p g m z q n))) : ∀ d i f, i + d = n → d < f → wX_lightestOpenChild_4 post (nI q) (nI c) (nI l) (nI n) (lN (cq_t z)) (cq_P p) (cq_A (cq_cc p n)) (cq_A g) (cq_A m) (cq_A (cq_u p z)) (cq_A (cq_r z)) (cq_A (cq_h z)) (cq_G (cq_lv z) (cq_id z)) (cq_A (cq_cl z)) (cq_A (cq_cu z)) op f (cq_oI (cq_lc l n p g m z q i)) (nI i) := by
  have hJ' := hJ
  obtain ⟨⟨h1, h2, h3, h4, hn⟩, hT, hg, hm, h0⟩ := hJ
  intro d
  induction d with
  | zero =>
    intro i f hi hf
    obtain ⟨f, rfl⟩ : ∃ k, f = k + 1 := ⟨f - 1, by omega⟩
    have e : i = n := by omega
    subst e
    exact pk_le i i (fun _ => hp) (fun h => by omega)
  | succ d ih =>
    intro i f hi hf
    obtain ⟨f, rfl⟩ : ∃ k, f = k + 1 := ⟨f - 1, by omega⟩
    have ih' := ih (i + 1) f (by omega) (by omega)
    have ii : vp_in (nI i) 16 := vp_in_nI (by omega) (by omega)
    have keep : cq_oc l n p m z q i = false → wX_lightestOpenChild_4 post (nI q) (nI c) (nI l) (nI n) (lN (cq_t z)) (cq_P p) (cq_A (cq_cc p n)) (cq_A g) (cq_A m) (cq_A (cq_u p z)) (cq_A (cq_r z)) (cq_A (cq_h z)) (cq_G (cq_lv z) (cq_id z)) (cq_A (cq_cl z)) (cq_A (cq_cu z)) op f (cq_oI (cq_lc l n p g m z q i)) (nI (i + 1)) := by
      intro e
      have e' : cq_lc l n p g m z q (i + 1) = cq_lc l n p g m z q i := cq_fo_k e
      rw [e'] at ih'
      exact ih'
    refine pk_le n i (fun h => by omega) (fun _ => ⟨ii, ?_⟩)
    by_cases e0 : i = 0
    · subst e0
      exact br_f (cq_pe0 hq) (nm_r (nI_1 0) (keep (by unfold cq_oc; simp)))
    · refine cq_if (cq_pe hT hn e0 (by omega) hq) (fun e => ⟨ii, ?_⟩) (fun e => nm_r (nI_1 i) (keep (cq_oc_no e0 e)))
      rw [nI_clamp (by omega), hO i (by omega)]
      refine cq_b0 (fun e2 => nm_r (nI_1 i) (keep (by rw [cq_oc_op e0 e]; exact e2))) (fun e2 => ?_)
      have oc : cq_oc l n p m z q i = true := by rw [cq_oc_op e0 e]; exact e2
      cases es : cq_lc l n p g m z q i with
      | none =>
        rw [cq_lc_s, es] at ih'
        dsimp only at ih'
        rw [if_pos oc] at ih'
        exact br_t rfl (nm_r (nI_1 i) ih')
      | some b =>
        obtain ⟨b1, b2, b3, b4⟩ := cq_lc_some es
        rw [cq_lc_s, es] at ih'
        dsimp only at ih'
        rw [oc, Bool.true_and] at ih'
        refine br_f (cq_m1 (by omega)) (cq_x_isLighter hJ' (by omega) (by omega) (cq_b0 (fun e3 => nm_r (nI_1 i) ?_) (fun e3 => nm_r (nI_1 i) ?_)))
        · rw [e3] at ih'
          exact ih'
        · rw [e3] at ih'
          exact ih'
theorem cq_x_lightestOpenChild (hJ : cq_J c l n p g m) (hO : ∀ j, j < n → op j = cq_bI (cq_on l n p m z j)) {q : Nat} (hq : q < 2 ^ 31) {post : Int32 → Prop} (hp : post (cq_oI (cq_lc l n p g m z q n))) : wpX_lightestOpenChild post (cq_X c l n p g m z op) (nI q) :=
  Exists.intro (n + 1) (cq_x_lc hJ hO hq hp n 0 (n + 1) (by omega) (by omega))
theorem cq_lf_s (l n : Nat) (p g m : Nat → Nat) (z : cq_Z) (f q : Nat) : cq_lf l n p g m z (f + 1) q = (if cq_cc p n q = 0 then q else match cq_lc l n p g m z q n with
    | none => q
    | some b => cq_lf l n p g m z f b) := rfl
theorem cq_x_lf (hJ : cq_J c l n p g m) (hO : ∀ j, j < n → op j = cq_bI (cq_on l n p m z j)) {post : Int32 → Prop} : ∀ k q i f, i + k = 16 → q < n → k < f → post (nI (cq_lf l n p g m z k q)) → wX_lightestOpenLeaf_4 post (nI c) (nI l) (nI n) (lN (cq_t z)) (cq_P p) (cq_A (cq_cc p n)) (cq_A g) (cq_A m) (cq_A (cq_u p z)) (cq_A (cq_r z)) (cq_A (cq_h z)) (cq_G (cq_lv z) (cq_id z)) (cq_A (cq_cl z)) (cq_A (cq_cu z)) op f (nI q) (nI i) := by
  have hn := hJ.1.2.2.2.2
  intro k
  induction k with
  | zero =>
    intro q i f hi hq hf hp
    obtain ⟨f, rfl⟩ : ∃ k, f = k + 1 := ⟨f - 1, by omega⟩
    exact pk_le 16 i (fun _ => hp) (fun h => by omega)
  | succ k ih =>
    intro q i f hi hq hf hp
    obtain ⟨f, rfl⟩ : ∃ k, f = k + 1 := ⟨f - 1, by omega⟩
    have hc := cq_cc_le p n q
    rw [cq_lf_s] at hp
    refine pk_le 16 i (fun h => by omega) (fun _ => ⟨vp_in_nI (by omega) (by omega), cq_if (cq_g0 (f := cq_cc p n) (by omega) (by omega)) (fun e => ?_) (fun e => cq_x_lightestOpenChild hJ hO (by omega) ?_)⟩)
    · rw [if_pos e] at hp
      exact hp
    · rw [if_neg e] at hp
      cases es : cq_lc l n p g m z q n with
      | none =>
        rw [es] at hp
        exact br_t rfl hp
      | some b =>
        rw [es] at hp
        obtain ⟨b1, b2, b3, b4⟩ := cq_lc_some es
        exact br_f (cq_m1 (by omega)) (nm_r (nI_1 i) (ih b (i + 1) f (by omega) b1 (by omega) hp))
theorem cq_x_lightestOpenLeaf (hJ : cq_J c l n p g m) (hO : ∀ j, j < n → op j = cq_bI (cq_on l n p m z j)) {post : Int32 → Prop} (hp : post (nI (cq_lf l n p g m z 16 0))) : wpX_lightestOpenLeaf post (cq_X c l n p g m z op) :=
  Exists.intro 17 (cq_x_lf hJ hO 16 0 0 17 (by omega) (by have := hJ.1; omega) (by omega) hp)
theorem cq_x_ls (hn : n ≤ 16) (h64 : l ≤ 64) (hD : cq_D T' B' n p z) (hB : B' < 2 ^ 30) {x : Nat} (hx : x < n) {post : Int32 → Prop} (hp : post (cq_oI (cq_us4 l z x 4))) : ∀ d k f, k + d = 4 → d < f → wX_leastServedUser_4 post (nI x) (nI c) (nI l) (nI n) (lN (cq_t z)) (cq_P p) (cq_A (cq_cc p n)) (cq_A g) (cq_A m) (cq_A (cq_u p z)) (cq_A (cq_r z)) (cq_A (cq_h z)) (cq_G (cq_lv z) (cq_id z)) (cq_A (cq_cl z)) (cq_A (cq_cu z)) op f (cq_oI (cq_us4 l z x k)) (nI k) := by
  intro d
  induction d with
  | zero =>
    intro k f hk hf
    obtain ⟨f, rfl⟩ : ∃ k, f = k + 1 := ⟨f - 1, by omega⟩
    have e : k = 4 := by omega
    subst e
    exact pk_le 4 4 (fun _ => hp) (fun h => by omega)
  | succ d ih =>
    intro k f hk hf
    obtain ⟨f, rfl⟩ : ∃ k, f = k + 1 := ⟨f - 1, by omega⟩
    have ih' := ih (k + 1) f (by omega) (by omega)
    have hh : cq_h z (x * 4 + k) ≤ 64 := cq_hs_le _ _ _ _
    have hr := hD.2.1 (x * 4 + k)
    have i4 : vp_in (nI (x * 4 + k)) 64 := vp_in_nI (by omega) (by omega)
    have keep : ¬ (0 < cq_r z (x * 4 + k) ∧ cq_h z (x * 4 + k) < l) → wX_leastServedUser_4 post (nI x) (nI c) (nI l) (nI n) (lN (cq_t z)) (cq_P p) (cq_A (cq_cc p n)) (cq_A g) (cq_A m) (cq_A (cq_u p z)) (cq_A (cq_r z)) (cq_A (cq_h z)) (cq_G (cq_lv z) (cq_id z)) (cq_A (cq_cl z)) (cq_A (cq_cu z)) op f (cq_oI (cq_us4 l z x k)) (nI (k + 1)) := by
      intro h
      have e' : cq_us4 l z x (k + 1) = cq_us4 l z x k := by
        apply cq_us4_k
        unfold cq_ue
        cases e : (decide (0 < cq_r z (x * 4 + k)) && decide (cq_h z (x * 4 + k) < l)) with
        | false => rfl
        | true =>
          simp only [Bool.and_eq_true, decide_eq_true_eq] at e
          exact absurd e h
      rw [e'] at ih'
      exact ih'
    refine pk_le 4 k (fun h => by omega) (fun _ => nm_r (cq_ix x k) ⟨i4, cq_if (cq_g0 (f := cq_r z) (by omega) (by omega)) (fun e => br_t rfl (nm_r (nI_1 k) (keep (by omega)))) (fun e => ⟨i4, cq_if (d := l ≤ cq_h z (x * 4 + k)) (by rw [cq_rA (cq_h z) (by omega)]; exact nI_leI (by omega) (by omega)) (fun e2 => br_t rfl (nm_r (nI_1 k) (keep (by omega)))) (fun e2 => br_f (by decide) ?_)⟩)⟩)
    have ue1 : cq_ue l z x k = true := by
      unfold cq_ue
      simp only [Bool.and_eq_true, decide_eq_true_eq]
      omega
    rw [cq_us4_s] at ih'
    cases es : cq_us4 l z x k with
    | none =>
      rw [es] at ih'
      dsimp only at ih'
      rw [if_pos ue1] at ih'
      exact br_t rfl (nm_r (nI_1 k) ih')
    | some y =>
      have hy := cq_us4_4 es
      have hh2 : cq_h z (x * 4 + y) ≤ 64 := cq_hs_le _ _ _ _
      rw [es] at ih'
      dsimp only at ih'
      rw [ue1, Bool.true_and] at ih'
      refine br_f (cq_m1 (by omega)) ⟨i4, by show vp_in (nI x * 4 + nI y) 64; rw [cq_ix]; exact vp_in_nI (by omega) (by omega), cq_if (d := cq_h z (x * 4 + y) ≤ cq_h z (x * 4 + k)) (by show cq_A (cq_h z) (nI x * 4 + nI y).toNatClampNeg ≤ _ ↔ _; rw [cq_ix, cq_rA (cq_h z) (by omega), cq_rA (cq_h z) (by omega)]; exact nI_leI (by omega) (by omega)) (fun e3 => nm_r (nI_1 k) ?_) (fun e3 => nm_r (nI_1 k) ?_)⟩
      · rw [show cq_ubt z x k y = false by unfold cq_ubt; simpa using e3] at ih'
        exact ih'
      · rw [show cq_ubt z x k y = true by unfold cq_ubt; simpa using e3] at ih'
        exact ih'
theorem cq_x_leastServedUser (hn : n ≤ 16) (h64 : l ≤ 64) (hD : cq_D T' B' n p z) (hB : B' < 2 ^ 30) {x : Nat} (hx : x < n) {post : Int32 → Prop} (hp : post (cq_oI (cq_us4 l z x 4))) : wpX_leastServedUser post (cq_X c l n p g m z op) (nI x) :=
  Exists.intro 5 (cq_x_ls hn h64 hD hB hx hp 4 0 5 (by omega) (by omega))
theorem cq_x_grant (hT : cq_T p n) (hn : n ≤ 16) (h64 : l ≤ 64) (hD : cq_D T' B' n p z) (hB : B' < 2 ^ 30) (hT' : T' < 2 ^ 31) {x : Nat} (hx : x < n) {post : SX → Prop} (hp : post (cq_X c l n p g m (cq_gr l x z) op)) : wpX_grant post (cq_X c l n p g m z op) (nI x) := by
  unfold wpX_grant
  refine cq_x_leastServedUser hn h64 hD hB hx (cq_x_slotHolding (F := cq_fr z) (fun i _ => cq_F0 hD hT' i) ?_)
  unfold cq_gr at hp
  cases ey : cq_us4 l z x 4 with
  | none =>
    rw [ey] at hp
    exact br_t rfl hp
  | some y =>
    obtain ⟨y1, y2, y3⟩ := cq_us4_lt ey
    rw [ey] at hp
    dsimp only at hp
    refine br_f (cq_m1 (by omega)) ?_
    cases es : cq_fnd (cq_fr z) 0 64 with
    | none =>
      have es' : cq_sl z = none := es
      rw [es'] at hp
      exact br_t rfl hp
    | some s =>
      have es' : cq_sl z = some s := es
      obtain ⟨s1, s2⟩ := cq_sl_lt es'
      rw [es'] at hp
      dsimp only at hp
      have ix : vp_in (nI x * 4 + nI y) 64 := by rw [cq_ix]; exact vp_in_nI (by omega) (by omega)
      have is : vp_in (nI s) 64 := vp_in_nI (by omega) (by omega)
      have hh := cq_h_put x y s1 s2
      have hu := cq_u_put p x y s1 s2
      have eh : cq_up (cq_h z) (x * 4 + y) (cq_h z (x * 4 + y) + 1) = cq_h (cq_put z x y s) := by
        funext j
        have := hh j
        by_cases w : j = x * 4 + y
        · subst w
          rw [if_pos (by simp)] at this
          rw [cq_up_s, this]
        · rw [if_neg (by simp; omega)] at this
          rw [cq_up_n w, this]
          rfl
      have eu : (fun q => if cq_un p x q then cq_A (cq_u p z) q + 1 else cq_A (cq_u p z) q) = cq_A (cq_u p (cq_put z x y s)) := by
        funext q
        have := hu q
        unfold cq_A
        by_cases w : cq_un p x q = true
        · rw [if_pos w] at this ⊢
          rw [this, nI_1]
        · rw [if_neg w] at this ⊢
          rw [this]
          rfl
      refine br_f (cq_m1 (by omega)) ⟨ix, ix, nm_r (cq_w_dec (by omega) y2) ⟨ix, ix, nm_r (cq_w_inc (by omega)) ⟨is, nm_r (e' := cq_G (cq_ub (cq_lv z) s true) (cq_up (cq_id z) s (cq_t z))) (by show vp_updL _ (nI s).toNatClampNeg _ = _; rw [nI_clamp (by omega)]; exact cq_G_up _ _ _ _) ⟨is, nm_r (cq_w_set _ (by omega)) ⟨is, nm_r (cq_w_set _ (by omega)) (nm_r (lN_1 _) (cq_x_addToPath hT hn hx ?_))⟩⟩⟩⟩⟩
      rw [eh, eu]
      exact hp
theorem cq_x_fl (hJ : cq_J c l n p g m) (hB : B' < 2 ^ 30) {post : Int32 → SX → Prop} : ∀ d i f z op T', i + d = c → cq_D T' B' n p z → T' + d < 2 ^ 31 → d < f → (∀ op', post (nI (i + cq_fn l n p g m d z)) (cq_X c l n p g m (cq_fz l n p g m d z) op')) → wX_fill_4 post f (nI i) (nI i) (nI c) (nI l) (nI n) (lN (cq_t z)) (cq_P p) (cq_A (cq_cc p n)) (cq_A g) (cq_A m) (cq_A (cq_u p z)) (cq_A (cq_r z)) (cq_A (cq_h z)) (cq_G (cq_lv z) (cq_id z)) (cq_A (cq_cl z)) (cq_A (cq_cu z)) op := by
  have hJ' := hJ
  obtain ⟨⟨h1, h2, h3, h4, hn⟩, hT, hg, hm, h0⟩ := hJ
  intro d
  induction d with
  | zero =>
    intro i f z op T' hi hD hT' hf hp
    obtain ⟨f, rfl⟩ : ∃ k, f = k + 1 := ⟨f - 1, by omega⟩
    exact pk_le c i (fun _ => hp op) (fun h => by omega)
  | succ d ih =>
    intro i f z op T' hi hD hT' hf hp
    obtain ⟨f, rfl⟩ : ∃ k, f = k + 1 := ⟨f - 1, by omega⟩
    refine pk_le c i (fun h => by omega) (fun _ => cq_x_mark hJ' hD hB (fun op' hO => ?_))
    show ((op' 0 = 0 → _) ∧ (¬ op' 0 = 0 → _))
    rw [hO 0 (by omega)]
    unfold cq_fz cq_fn at hp
    cases ho : cq_on l n p m z 0 with
    | false =>
      rw [ho] at hp
      exact br_t rfl (hp op')
    | true =>
      rw [ho] at hp
      have hx := cq_lf_ok (g := g) hT 16 0 (by omega) (by omega) ho
      refine br_f (by decide) (cq_x_lightestOpenLeaf hJ' hO (cq_x_grant hT hn h3 hD hB (by omega) hx.1 (nm_r (nI_1 i) (nm_r (nI_1 i) (ih (i + 1) f (cq_nx l n p g m z) op' (T' + 1) (by omega) (cq_nx_D hT h4 hn hD ho) (by omega) (by omega) (fun op'' => ?_))))))
      rw [show i + 1 + cq_fn l n p g m d (cq_nx l n p g m z) = i + (cq_fn l n p g m d (cq_nx l n p g m z) + 1) by omega]
      exact hp op''
theorem cq_x_fill (hJ : cq_J c l n p g m) (hB : B' < 2 ^ 30) (hD : cq_D T' B' n p z) (hT' : T' + c < 2 ^ 31) {post : Int32 → SX → Prop} (hp : ∀ op', post (nI (cq_fn l n p g m c z)) (cq_X c l n p g m (cq_fz l n p g m c z) op')) : wpX_fill post (cq_X c l n p g m z op) :=
  Exists.intro (c + 1) (cq_x_fl hJ hB c 0 (c + 1) z op T' (by omega) hD hT' (by omega) (by rw [Nat.zero_add]; exact hp))
end
end
section
/-! the class: taking back -/
section
variable {c l n : Nat} {p g m : Nat → Nat} {z : cq_Z} {op : Nat → Int32} {A B : Prop} {T' B' : Nat}
theorem cq_fa_s (p m : Nat → Nat) (z : cq_Z) (f x : Nat) : cq_fa p m z (f + 1) x = (if cq_u p z x = m x then some x else if x = 0 then none else cq_fa p m z f (p x)) := rfl
theorem cq_fa_un (hT : cq_T p n) : ∀ f x a, x < n → cq_fa p m z f x = some a → cq_un p x a = true := by
  intro f
  induction f with
  | zero =>
    intro x a _ h
    exact absurd h (by simp [cq_fa])
  | succ f ih =>
    intro x a hx h
    rw [cq_fa_s] at h
    by_cases e : cq_u p z x = m x
    · rw [if_pos e] at h
      cases h
      exact cq_un_self p x
    · rw [if_neg e] at h
      by_cases e0 : x = 0
      · rw [if_pos e0] at h
        exact absurd h (by simp)
      · rw [if_neg e0] at h
        have hp := hT x (by omega) hx
        rw [cq_un_p hT e0 hx, ih (p x) a (by omega) h]
        simp
theorem cq_fs_in (hT : cq_T p n) {s a : Nat} (hs : s < n) (h : cq_fs p m z s = some a) : s ≠ 0 ∧ a < n ∧ cq_cc p n a ≠ 0 := by
  unfold cq_fs at h
  by_cases e0 : s = 0
  · rw [if_pos e0] at h
    exact absurd h (by simp)
  · rw [if_neg e0] at h
    have hp := hT s (by omega) hs
    have h1 := cq_fa_un hT 16 (p s) a (by omega) h
    have h2 := cq_un_le hT (p s + 1) (p s) a (by omega) (by omega) h1
    have h3 : cq_un p s a = true := by
      rw [cq_un_p hT e0 hs, h1]
      simp
    obtain ⟨j, a1, a2, a3, _⟩ := cq_un_ch hT (s + 1) s (by omega) hs h3 (by omega)
    exact ⟨e0, by omega, fun w => cq_cc_0 w a1 a2 a3⟩
theorem cq_st_no {q : Nat} (h : ¬ (cq_cc p n q = 0 ∧ cq_u p z q < g q ∧ 0 < cq_e l z q)) : ¬ cq_st l n p g z q = true := by
  intro e
  unfold cq_st at e
  simp only [Bool.and_eq_true, decide_eq_true_eq] at e
  exact h ⟨e.1.1, e.1.2, e.2⟩
theorem cq_st_yes {q : Nat} (h1 : cq_cc p n q = 0) (h2 : cq_u p z q < g q) (h3 : 0 < cq_e l z q) : cq_st l n p g z q = true := by
  unfold cq_st
  simp only [Bool.and_eq_true, decide_eq_true_eq]
  exact ⟨⟨h1, h2⟩, h3⟩
theorem cq_x_sv (hJ : cq_J c l n p g m) (hD : cq_D T' B' n p z) (hB : B' < 2 ^ 30) {post : Int32 → Prop} : ∀ d i f, i + d = n → d < f → post (cq_oI (cq_fnd (cq_st l n p g z) i d)) → wX_lowestStarvedLeaf_2 post (nI c) (nI l) (nI n) (lN (cq_t z)) (cq_P p) (cq_A (cq_cc p n)) (cq_A g) (cq_A m) (cq_A (cq_u p z)) (cq_A (cq_r z)) (cq_A (cq_h z)) (cq_G (cq_lv z) (cq_id z)) (cq_A (cq_cl z)) (cq_A (cq_cu z)) op f (nI i) := by
  have hJ' := hJ
  obtain ⟨⟨h1, h2, h3, h4, hn⟩, hT, hg, hm, h0⟩ := hJ
  intro d
  induction d with
  | zero =>
    intro i f hi hf hp
    obtain ⟨f, rfl⟩ : ∃ k, f = k + 1 := ⟨f - 1, by omega⟩
    exact pk_le n i (fun _ => hp) (fun h => by omega)
  | succ d ih =>
    intro i f hi hf hp
    obtain ⟨f, rfl⟩ : ∃ k, f = k + 1 := ⟨f - 1, by omega⟩
    have ii : vp_in (nI i) 16 := vp_in_nI (by omega) (by omega)
    have hu : cq_u p z i ≤ 64 := cq_us_le _ _ _ _
    have hgi := hg i
    have he := cq_e_le l z i
    rw [cq_fnd_s] at hp
    have nxt : ¬ (cq_cc p n i = 0 ∧ cq_u p z i < g i ∧ 0 < cq_e l z i) → wX_lowestStarvedLeaf_2 post (nI c) (nI l) (nI n) (lN (cq_t z)) (cq_P p) (cq_A (cq_cc p n)) (cq_A g) (cq_A m) (cq_A (cq_u p z)) (cq_A (cq_r z)) (cq_A (cq_h z)) (cq_G (cq_lv z) (cq_id z)) (cq_A (cq_cl z)) (cq_A (cq_cu z)) op f (nI (i + 1)) := by
      intro h
      rw [if_neg (cq_st_no h)] at hp
      exact ih (i + 1) f (by omega) (by omega) hp
    refine pk_le n i (fun h => by omega) (fun _ => ⟨ii, cq_if (cq_c1 hn (by omega)) (fun e => ⟨ii, ii, cq_if (d := g i ≤ cq_u p z i) (by rw [cq_rA g (by omega), cq_rA (cq_u p z) (by omega)]; exact nI_leI (by omega) (by omega)) (fun e2 => nm_r (nI_1 i) (nxt (by omega))) (fun e2 => cq_x_eligibleDemand hn h3 hD hB (by omega) ?_)⟩) (fun e => nm_r (nI_1 i) (nxt (by omega)))⟩)
    by_cases e3 : 0 < cq_e l z i
    · refine br_f (by rw [show (0 : Int64) = lN 0 from rfl, lN_le (by omega) (by decide)]; omega) ?_
      rw [if_pos (cq_st_yes e (by omega) e3)] at hp
      exact hp
    · exact br_t (by rw [show (0 : Int64) = lN 0 from rfl, lN_le (by omega) (by decide)]; omega) (nm_r (nI_1 i) (nxt (by omega)))
theorem cq_x_lowestStarvedLeaf (hJ : cq_J c l n p g m) (hD : cq_D T' B' n p z) (hB : B' < 2 ^ 30) {post : Int32 → Prop} (hp : post (cq_oI (cq_sv l n p g z))) : wpX_lowestStarvedLeaf post (cq_X c l n p g m z op) :=
  Exists.intro (n + 1) (cq_x_sv hJ hD hB n 0 (n + 1) (by omega) (by omega) hp)
theorem cq_x_fa (hJ : cq_J c l n p g m) {post : Int32 → Prop} : ∀ k x i f, i + k = 16 → x < n → k + 1 < f → post (cq_oI (cq_fa p m z k x)) → wX_nearestFullAncestor_9 post (nI c) (nI l) (nI n) (lN (cq_t z)) (cq_P p) (cq_A (cq_cc p n)) (cq_A g) (cq_A m) (cq_A (cq_u p z)) (cq_A (cq_r z)) (cq_A (cq_h z)) (cq_G (cq_lv z) (cq_id z)) (cq_A (cq_cl z)) (cq_A (cq_cu z)) op f (nI x) (nI i) := by
  obtain ⟨⟨h1, h2, h3, h4, hn⟩, hT, hg, hm, h0⟩ := hJ
  intro k
  induction k with
  | zero =>
    intro x i f hi hx hf hp
    obtain ⟨f, rfl⟩ : ∃ k, f = k + 1 := ⟨f - 1, by omega⟩
    exact pk_le 16 i (fun _ => hp) (fun h => by omega)
  | succ k ih =>
    intro x i f hi hx hf hp
    obtain ⟨f, rfl⟩ : ∃ k, f = k + 1 := ⟨f - 1, by omega⟩
    have ix : vp_in (nI x) 16 := vp_in_nI (by omega) (by omega)
    have hu : cq_u p z x ≤ 64 := cq_us_le _ _ _ _
    have hmx := hm x
    rw [cq_fa_s] at hp
    refine pk_le 16 i (fun h => by omega) (fun _ => br_f (cq_m1 (by omega)) ⟨ix, ix, cq_if (d := cq_u p z x = m x) (by rw [cq_rA m (by omega), cq_rA (cq_u p z) (by omega)]; exact nI_eq (by omega) (by omega)) (fun e => ?_) (fun e => ⟨ix, ?_⟩)⟩)
    · rw [if_pos e] at hp
      exact hp
    · rw [if_neg e] at hp
      by_cases e0 : x = 0
      · subst e0
        rw [if_pos rfl] at hp
        refine nm_r (cq_rP0 p) (nm_r (nI_1 i) ?_)
        obtain ⟨f, rfl⟩ : ∃ k, f = k + 1 := ⟨f - 1, by omega⟩
        exact pk_le 16 (i + 1) (fun _ => hp) (fun _ => br_t rfl hp)
      · rw [if_neg e0] at hp
        have := hT x (by omega) hx
        exact nm_r (cq_rPp p e0 (by omega)) (nm_r (nI_1 i) (ih (p x) (i + 1) f (by omega) (by omega) (by omega) hp))
theorem cq_x_nearestFullAncestor (hJ : cq_J c l n p g m) {s : Nat} (hs : s < n) {post : Int32 → Prop} (hp : post (cq_oI (cq_fs p m z s))) : wpX_nearestFullAncestor post (cq_X c l n p g m z op) (nI s) := by
  have hn := hJ.1.2.2.2.2
  unfold cq_fs at hp
  refine ⟨vp_in_nI (by omega) (by omega), ?_⟩
  by_cases e0 : s = 0
  · subst e0
    rw [if_pos rfl] at hp
    exact nm_r (cq_rP0 p) (Exists.intro 1 (pk_le 16 0 (fun h => by omega) (fun _ => br_t rfl hp)))
  · rw [if_neg e0] at hp
    have := hJ.2.1 s (by omega) hs
    exact nm_r (cq_rPp p e0 (by omega)) (Exists.intro 18 (cq_x_fa hJ 16 (p s) 0 18 (by omega) (by omega) (by omega) hp))
theorem cq_x_ib (hT : cq_T p n) (hn : n ≤ 16) {a : Nat} (ha : a < 2 ^ 31) {post : Int32 → Prop} : ∀ d x i f, x < d → x < n → x + i ≤ 15 → d < f → post (cq_bI (cq_un p x a)) → wX_isBelow_10 post (nI a) (nI c) (nI l) (nI n) (lN (cq_t z)) (cq_P p) (cq_A (cq_cc p n)) (cq_A g) (cq_A m) (cq_A (cq_u p z)) (cq_A (cq_r z)) (cq_A (cq_h z)) (cq_G (cq_lv z) (cq_id z)) (cq_A (cq_cl z)) (cq_A (cq_cu z)) op f (nI x) (nI i) := by
  intro d
  induction d with
  | zero =>
    intro x i f h
    omega
  | succ d ih =>
    intro x i f hd hx hi hf hp
    obtain ⟨f, rfl⟩ : ∃ k, f = k + 1 := ⟨f - 1, by omega⟩
    refine pk_le 16 i (fun h => by omega) (fun _ => br_f (cq_m1 (by omega)) (pk_eq x a (fun e => ?_) (fun e => ⟨vp_in_nI (by omega) (by omega), ?_⟩)))
    · subst e
      rw [cq_un_self] at hp
      exact hp
    · by_cases h0 : x = 0
      · subst h0
        refine nm_r (cq_rP0 p) (nm_r (nI_1 i) ?_)
        obtain ⟨f, rfl⟩ : ∃ k, f = k + 1 := ⟨f - 1, by omega⟩
        rw [cq_un_00, show ((0 : Nat) == a) = false by simpa using e] at hp
        exact pk_le 16 (i + 1) (fun _ => hp) (fun _ => br_t rfl hp)
      · have hpx := hT x (by omega) hx
        rw [cq_un_ne hT h0 hx e] at hp
        exact nm_r (cq_rPp p h0 (by omega)) (nm_r (nI_1 i) (ih (p x) (i + 1) f (by omega) (by omega) (by omega) (by omega) hp))
theorem cq_x_isBelow (hT : cq_T p n) (hn : n ≤ 16) {x a : Nat} (hx : x < n) (ha : a < 2 ^ 31) (hne : x ≠ a) {post : Int32 → Prop} (hp : post (cq_bI (cq_un p x a))) : wpX_isBelow post (cq_X c l n p g m z op) (nI x) (nI a) := by
  refine ⟨vp_in_nI (by omega) (by omega), ?_⟩
  by_cases h0 : x = 0
  · subst h0
    rw [cq_un_00, show ((0 : Nat) == a) = false by simpa using hne] at hp
    exact nm_r (cq_rP0 p) (Exists.intro 1 (pk_le 16 0 (fun h => by omega) (fun _ => br_t rfl hp)))
  · have hpx := hT x (by omega) hx
    rw [cq_un_ne hT h0 hx hne] at hp
    exact nm_r (cq_rPp p h0 (by omega)) (Exists.intro (p x + 2) (cq_x_ib hT hn ha (p x + 1) (p x) 0 (p x + 2) (by omega) (by omega) (by omega) (by omega) hp))
def cq_bo (p g : Nat → Nat) (z : cq_Z) (a s x : Nat) : Bool := !(x == s) && decide (g x < cq_u p z x) && cq_un p x a
theorem cq_bw_t {a s i : Nat} (h : cq_lv z i = true) : cq_bw p g z a s i = cq_bo p g z a s (cq_cl z i) := by
  unfold cq_bw cq_bo
  rw [h, Bool.true_and]
theorem cq_bw_f {a s i : Nat} (h : cq_lv z i = false) : cq_bw p g z a s i = false := by
  unfold cq_bw
  rw [h]
  simp
theorem cq_x_isBorrower (hJ : cq_J c l n p g m) {x a s : Nat} (hx : x < n) (ha : a < n) (hs : s < n) (hne : x ≠ a) {post : Int32 → Prop} (hp : post (cq_bI (cq_bo p g z a s x))) : wpX_isBorrower post (cq_X c l n p g m z op) (nI x) (nI a) (nI s) := by
  obtain ⟨⟨h1, h2, h3, h4, hn⟩, hT, hg, hm, h0⟩ := hJ
  have ix : vp_in (nI x) 16 := vp_in_nI (by omega) (by omega)
  have hu : cq_u p z x ≤ 64 := cq_us_le _ _ _ _
  have hgx := hg x
  unfold cq_bo at hp
  refine pk_eq x s (fun e => ?_) (fun e => ⟨ix, ix, cq_if (d := cq_u p z x ≤ g x) (by rw [cq_rA g (by omega), cq_rA (cq_u p z) (by omega)]; exact nI_leI (by omega) (by omega)) (fun e2 => ?_) (fun e2 => cq_x_isBelow hT hn hx (by omega) hne ?_)⟩)
  · rw [show (x == s) = true by simpa using e] at hp
    exact hp
  · rw [show decide (g x < cq_u p z x) = false by simpa using e2, Bool.and_false, Bool.false_and] at hp
    exact hp
  · rw [show (x == s) = false by simpa using e, show decide (g x < cq_u p z x) = true by simpa using e2] at hp
    cases e3 : cq_un p x a with
    | false =>
      rw [e3] at hp
      exact br_t rfl hp
    | true =>
      rw [e3] at hp
      exact br_f (by decide) hp
theorem cq_vi_s (p g : Nat → Nat) (z : cq_Z) (a s i : Nat) : cq_vi p g z a s (i + 1) = (match cq_vi p g z a s i with
    | none => if cq_bw p g z a s i then some i else none
    | some j => if cq_bw p g z a s i && cq_yb z i j then some i else some j) := rfl
theorem cq_x_vi (hJ : cq_J c l n p g m) (hD : cq_D T' B' n p z) (hT' : T' < 2 ^ 31) {a s : Nat} (ha : a < n) (hs : s < n) (hc : cq_cc p n a ≠ 0) {post : Int32 → Prop} (hp : post (cq_oI (cq_vi p g z a s 64))) : ∀ d i f, i + d = 64 → d < f → wX_youngestBorrowedSlot_5 post (nI a) (nI s) (nI c) (nI l) (nI n) (lN (cq_t z)) (cq_P p) (cq_A (cq_cc p n)) (cq_A g) (cq_A m) (cq_A (cq_u p z)) (cq_A (cq_r z)) (cq_A (cq_h z)) (cq_G (cq_lv z) (cq_id z)) (cq_A (cq_cl z)) (cq_A (cq_cu z)) op f (cq_oI (cq_vi p g z a s i)) (nI i) := by
  intro d
  induction d with
  | zero =>
    intro i f hi hf
    obtain ⟨f, rfl⟩ : ∃ k, f = k + 1 := ⟨f - 1, by omega⟩
    have e : i = 64 := by omega
    subst e
    exact pk_le 64 64 (fun _ => hp) (fun h => by omega)
  | succ d ih =>
    intro i f hi hf
    obtain ⟨f, rfl⟩ : ∃ k, f = k + 1 := ⟨f - 1, by omega⟩
    have ih' := ih (i + 1) f (by omega) (by omega)
    have ii : vp_in (nI i) 64 := vp_in_nI (by omega) (by omega)
    have ht := hD.1.2
    have keep : cq_bw p g z a s i = false → wX_youngestBorrowedSlot_5 post (nI a) (nI s) (nI c) (nI l) (nI n) (lN (cq_t z)) (cq_P p) (cq_A (cq_cc p n)) (cq_A g) (cq_A m) (cq_A (cq_u p z)) (cq_A (cq_r z)) (cq_A (cq_h z)) (cq_G (cq_lv z) (cq_id z)) (cq_A (cq_cl z)) (cq_A (cq_cu z)) op f (cq_oI (cq_vi p g z a s i)) (nI (i + 1)) := by
      intro e
      have e' : cq_vi p g z a s (i + 1) = cq_vi p g z a s i := cq_fo_k e
      rw [e'] at ih'
      exact ih'
    refine pk_le 64 i (fun h => by omega) (fun _ => ⟨ii, cq_if (d := cq_fr z i = true) (by rw [nI_clamp (by omega)]; exact cq_F0 hD hT' i) (fun e => nm_r (nI_1 i) (keep (cq_bw_f (by unfold cq_fr at e; simpa using e)))) (fun e => ⟨ii, ?_⟩)⟩)
    have hl : cq_lv z i = true := by unfold cq_fr at e; simpa using e
    obtain ⟨a1, a2, a3, a4, a5⟩ := hD.2.2.2 i hl
    rw [cq_rA (cq_cl z) (by omega)]
    refine cq_x_isBorrower hJ a1 ha hs (fun w => hc (w ▸ a5)) (cq_b0 (fun e2 => nm_r (nI_1 i) (keep (by rw [cq_bw_t hl]; exact e2))) (fun e2 => ?_))
    have bw : cq_bw p g z a s i = true := by rw [cq_bw_t hl]; exact e2
    rw [cq_vi_s] at ih'
    cases es : cq_vi p g z a s i with
    | none =>
      rw [es] at ih'
      dsimp only at ih'
      rw [if_pos bw] at ih'
      exact br_t rfl (nm_r (nI_1 i) ih')
    | some j =>
      obtain ⟨j1, j2, _⟩ := cq_vi_ok es
      obtain ⟨b1, b2, b3, b4, b5⟩ := hD.2.2.2 j j2
      rw [es] at ih'
      dsimp only at ih'
      rw [bw, Bool.true_and] at ih'
      refine br_f (cq_m1 (by omega)) ⟨ii, vp_in_nI (by omega) (by omega), cq_if (d := cq_id z i ≤ cq_id z j) (by
        show cq_G (cq_lv z) (cq_id z) (nI i).toNatClampNeg ≤ cq_G (cq_lv z) (cq_id z) (nI j).toNatClampNeg ↔ _
        rw [nI_clamp (by omega), nI_clamp (by omega), cq_G_t hl, cq_G_t j2]
        exact lN_le (by omega) (by omega)) (fun e3 => nm_r (nI_1 i) ?_) (fun e3 => nm_r (nI_1 i) ?_)⟩
      · rw [show cq_yb z i j = false by unfold cq_yb; simpa using e3] at ih'
        exact ih'
      · rw [show cq_yb z i j = true by unfold cq_yb; simpa using e3] at ih'
        exact ih'
theorem cq_x_youngestBorrowedSlot (hJ : cq_J c l n p g m) (hD : cq_D T' B' n p z) (hT' : T' < 2 ^ 31) {a s : Nat} (ha : a < n) (hs : s < n) (hc : cq_cc p n a ≠ 0) {post : Int32 → Prop} (hp : post (cq_oI (cq_vi p g z a s 64))) : wpX_youngestBorrowedSlot post (cq_X c l n p g m z op) (nI a) (nI s) :=
  Exists.intro 65 (cq_x_vi hJ hD hT' ha hs hc hp 64 0 65 (by omega) (by omega))
theorem cq_x_takeBack (hJ : cq_J c l n p g m) (hD : cq_D T' B' n p z) (hB : B' + 1 < 2 ^ 30) (hT' : T' < 2 ^ 31) {post : Int32 → SX → Prop} (h0 : cq_rd l n p g m z = none → post 0 (cq_X c l n p g m z op)) (h1 : ∀ z', cq_rd l n p g m z = some z' → post 1 (cq_X c l n p g m z' op)) : wpX_takeBackOneUnit post (cq_X c l n p g m z op) := by
  have hn := hJ.1.2.2.2.2
  have h64 := hJ.1.2.2.1
  have hT := hJ.2.1
  unfold wpX_takeBackOneUnit
  refine cq_x_lowestStarvedLeaf hJ hD (by omega) ?_
  cases es : cq_sv l n p g z with
  | none => exact br_t rfl (h0 (by unfold cq_rd; rw [es]))
  | some s =>
    obtain ⟨s1, s2, s3, s4⟩ := cq_sv_ok es
    refine br_f (cq_m1 (by omega)) (cq_x_nearestFullAncestor hJ s1 ?_)
    cases ea : cq_fs p m z s with
    | none => exact br_t rfl (h0 (by unfold cq_rd; rw [es]; dsimp only; rw [ea]))
    | some a =>
      obtain ⟨a1, a2, a3⟩ := cq_fs_in hT s1 ea
      refine br_f (cq_m1 (by omega)) (cq_x_youngestBorrowedSlot hJ hD hT' a2 s1 a3 ?_)
      cases ev : cq_vi p g z a s 64 with
      | none => exact br_t rfl (h0 (by unfold cq_rd; rw [es]; dsimp only; rw [ea]; dsimp only; rw [ev]))
      | some v =>
        obtain ⟨v1, v2, _⟩ := cq_vi_ok ev
        obtain ⟨b1, b2, b3, b4, b5⟩ := hD.2.2.2 v v2
        have hp := h1 (cq_gr l s (cq_rq z v)) (by unfold cq_rd; rw [es]; dsimp only; rw [ea]; dsimp only; rw [ev])
        have iv : vp_in (nI v) 64 := vp_in_nI (by omega) (by omega)
        have ix : vp_in (nI (cq_cl z v * 4 + cq_cu z v)) 64 := vp_in_nI (by omega) (by omega)
        refine br_f (cq_m1 (by omega)) ⟨iv, iv, nm_r (e' := nI (cq_cl z v * 4 + cq_cu z v)) (by
          show cq_A (cq_cl z) (nI v).toNatClampNeg * 4 + cq_A (cq_cu z) (nI v).toNatClampNeg = _
          rw [cq_rA (cq_cl z) (by omega), cq_rA (cq_cu z) (by omega), cq_ix]) (cq_x_remove hT hn hD v1 v2 ⟨ix, ix, nm_r (e' := cq_A (cq_r (cq_rq z v))) (by
          show upd (cq_A (cq_r z)) _ (cq_A (cq_r z) _ + 1) = _
          rw [cq_rA (cq_r z) (by omega), nI_clamp (by omega), nI_1, cq_A_up]
          rfl) (cq_x_grant (z := cq_rq z v) hT hn h64 (cq_D_rq hD v2) hB hT' s1 hp)⟩)⟩
theorem cq_pz_s (l n : Nat) (p g m : Nat → Nat) (d : Nat) (z : cq_Z) : cq_pz l n p g m (d + 1) z = (match cq_rd l n p g m z with
    | none => z
    | some z' => cq_pz l n p g m d z') := rfl
theorem cq_pn_s (l n : Nat) (p g m : Nat → Nat) (d : Nat) (z : cq_Z) : cq_pn l n p g m (d + 1) z = (match cq_rd l n p g m z with
    | none => 0
    | some z' => cq_pn l n p g m d z' + 1) := rfl
theorem cq_x_pr (hJ : cq_J c l n p g m) {post : Int32 → SX → Prop} : ∀ d i f z T' B', i + d = 64 → cq_D T' B' n p z → T' + d < 2 ^ 30 → B' + d < 2 ^ 30 → d < f → post (nI (i + cq_pn l n p g m d z)) (cq_X c l n p g m (cq_pz l n p g m d z) op) → wX_preempt_9 post f (nI i) (nI i) (nI c) (nI l) (nI n) (lN (cq_t z)) (cq_P p) (cq_A (cq_cc p n)) (cq_A g) (cq_A m) (cq_A (cq_u p z)) (cq_A (cq_r z)) (cq_A (cq_h z)) (cq_G (cq_lv z) (cq_id z)) (cq_A (cq_cl z)) (cq_A (cq_cu z)) op := by
  intro d
  induction d with
  | zero =>
    intro i f z T' B' hi hD hT' hB hf hp
    obtain ⟨f, rfl⟩ : ∃ k, f = k + 1 := ⟨f - 1, by omega⟩
    exact pk_le 64 i (fun _ => hp) (fun h => by omega)
  | succ d ih =>
    intro i f z T' B' hi hD hT' hB hf hp
    obtain ⟨f, rfl⟩ : ∃ k, f = k + 1 := ⟨f - 1, by omega⟩
    rw [cq_pz_s, cq_pn_s] at hp
    refine pk_le 64 i (fun h => by omega) (fun _ => cq_x_takeBack hJ hD (by omega) (by omega) (fun e => ?_) (fun z' e => ?_))
    · rw [e] at hp
      exact br_t rfl hp
    · rw [e] at hp
      dsimp only at hp
      refine br_f (by decide) (nm_r (nI_1 i) (nm_r (nI_1 i) (ih (i + 1) f z' (T' + 1) (B' + 1) (by omega) (cq_rd_D hD e) (by omega) (by omega) (by omega) ?_)))
      rw [show i + 1 + cq_pn l n p g m d z' = i + (cq_pn l n p g m d z' + 1) by omega]
      exact hp
theorem cq_x_preempt (hJ : cq_J c l n p g m) (hD : cq_D T' B' n p z) (hT' : T' + 128 < 2 ^ 30) (hB : B' + 64 < 2 ^ 30) {post : Int32 → SX → Prop} (hp : ∀ op', post (nI (cq_pn l n p g m 64 (cq_fz l n p g m c z))) (cq_X c l n p g m (cq_pz l n p g m 64 (cq_fz l n p g m c z)) op')) : wpX_preempt post (cq_X c l n p g m z op) := by
  have hh := hJ.1
  unfold wpX_preempt
  refine cq_x_fill hJ (by omega) hD (by omega) (fun op' => Exists.intro 65 (cq_x_pr hJ 64 0 65 _ (T' + c) B' (by omega) (cq_fz_D hJ.2.1 hh.2.2.2.1 hh.2.2.2.2 c T' z hD) (by omega) (by omega) (by omega) ?_))
  rw [Nat.zero_add]
  exact hp op'
end
end
section
/-! the reference: taking back -/
section
variable {c l n : Nat} {p g m : Nat → Nat} {z : cq_Z} {A B : Prop} {T' B' : Nat} {post : Int32 → SY → Prop} {J : Int32 → Int32 → Int32 → Int32 → Int32 → Int32 → (Nat → Int32) → (Nat → Int32) → (Nat → Int32) → (Nat → Int32) → (Nat → Int32) → (Nat → Int32) → (Nat → Int32) → (Nat → Int32) → Prop} {x1 x2 : Int32}
theorem cq_y_p20 (hJ : cq_J c l n p g m) (hD : cq_D T' B' n p z) (hB : B' < 2 ^ 30) : ∀ d i f, i + d = n → d + 1 < f → wY_preempt_76 post J x1 x2 (cq_oI (cq_fnd (cq_st l n p g z) i d)) (nI c) (nI l) (nI n) (nI (cq_t z)) (cq_P p) (cq_A g) (cq_A m) (cq_A (cq_r z)) (cq_A (cq_id z)) (cq_A (cq_cl z)) (cq_A (cq_cu z)) (cq_V (cq_lv z)) → wY_preempt_20 post J x1 x2 (nI c) (nI l) (nI n) (nI (cq_t z)) (cq_P p) (cq_A g) (cq_A m) (cq_A (cq_r z)) (cq_A (cq_id z)) (cq_A (cq_cl z)) (cq_A (cq_cu z)) (cq_V (cq_lv z)) f (-1) (nI i) := by
  obtain ⟨⟨h1, h2, h3, h4, hn⟩, hT, hg, hm, h0⟩ := hJ
  intro d
  induction d with
  | zero =>
    intro i f hi hf hp
    obtain ⟨f, rfl⟩ : ∃ k, f = k + 1 := ⟨f - 1, by omega⟩
    exact pk_le n i (fun _ => hp) (fun h => by omega)
  | succ d ih =>
    intro i f hi hf hp
    obtain ⟨f, rfl⟩ : ∃ k, f = k + 1 := ⟨f - 1, by omega⟩
    have ii : vp_in (nI i) 16 := vp_in_nI (by omega) (by omega)
    have hu : cq_u p z i ≤ 64 := cq_us_le _ _ _ _
    have hgi := hg i
    have he := cq_e_le l z i
    rw [cq_fnd_s] at hp
    have nxt : ¬ (cq_cc p n i = 0 ∧ cq_u p z i < g i ∧ 0 < cq_e l z i) → wY_preempt_20 post J x1 x2 (nI c) (nI l) (nI n) (nI (cq_t z)) (cq_P p) (cq_A g) (cq_A m) (cq_A (cq_r z)) (cq_A (cq_id z)) (cq_A (cq_cl z)) (cq_A (cq_cu z)) (cq_V (cq_lv z)) f (-1) (nI (i + 1)) := by
      intro h
      rw [if_neg (cq_st_no h)] at hp
      exact ih (i + 1) f (by omega) (by omega) hp
    refine pk_le n i (fun h => by omega) (fun _ => br_f (by decide) (cq_y_hasChildren hT hn h4 (by omega) (cq_b0 (fun e => cq_y_usedOf hT hn hD (by omega) ⟨ii, cq_if (d := g i ≤ cq_u p z i) (by rw [cq_rA g (by omega)]; exact nI_leI (by omega) (by omega)) (fun e2 => nm_r (nI_1 i) (nxt (by omega))) (fun e2 => cq_y_eOf hn h3 hD hB (by omega) ?_)⟩) (fun e => nm_r (nI_1 i) (nxt ?_)))))
    · have e' : cq_cc p n i = 0 := by unfold cq_hc at e; simpa using e
      by_cases e3 : 0 < cq_e l z i
      · refine br_f (nI_nle e3 (by omega)) (nm_r (nI_1 i) ?_)
        rw [if_pos (cq_st_yes e' (by omega) e3)] at hp
        obtain ⟨f, rfl⟩ : ∃ k, f = k + 1 := ⟨f - 1, by omega⟩
        exact pk_le n (i + 1) (fun _ => hp) (fun _ => br_t (nI_pos' (by omega)) hp)
      · refine br_t ?_ (nm_r (nI_1 i) (nxt (by omega)))
        rw [show cq_e l z i = 0 by omega]
        decide
    · have e' : cq_cc p n i ≠ 0 := by unfold cq_hc at e; simpa using e
      omega
theorem cq_y_p97 (hJ : cq_J c l n p g m) (hD : cq_D T' B' n p z) {x3 : Int32} : ∀ k x i f, x < k → x < n → x + i ≤ 16 → k + 1 < f → wY_preempt_156 post J x1 x2 x3 (cq_oI (cq_fa p m z k x)) (nI c) (nI l) (nI n) (nI (cq_t z)) (cq_P p) (cq_A g) (cq_A m) (cq_A (cq_r z)) (cq_A (cq_id z)) (cq_A (cq_cl z)) (cq_A (cq_cu z)) (cq_V (cq_lv z)) → wY_preempt_97 post J x1 x2 x3 (nI c) (nI l) (nI n) (nI (cq_t z)) (cq_P p) (cq_A g) (cq_A m) (cq_A (cq_r z)) (cq_A (cq_id z)) (cq_A (cq_cl z)) (cq_A (cq_cu z)) (cq_V (cq_lv z)) f (-1) (nI x) (nI i) := by
  obtain ⟨⟨h1, h2, h3, h4, hn⟩, hT, hg, hm, h0⟩ := hJ
  intro k
  induction k with
  | zero =>
    intro x i f h
    omega
  | succ k ih =>
    intro x i f hk hx hi hf hp
    obtain ⟨f, rfl⟩ : ∃ k, f = k + 1 := ⟨f - 1, by omega⟩
    have ix : vp_in (nI x) 16 := vp_in_nI (by omega) (by omega)
    have hu : cq_u p z x ≤ 64 := cq_us_le _ _ _ _
    have hmx := hm x
    rw [cq_fa_s] at hp
    refine pk_le 17 i (fun h => by omega) (fun _ => br_f (by decide) (br_f (nI_pos (by omega)) (pk_le 16 x (fun h => by omega) (fun _ => cq_y_usedOf hT hn hD (by omega) ⟨ix, cq_if (d := cq_u p z x = m x) (by rw [cq_rA m (by omega)]; exact nI_eq (by omega) (by omega)) (fun e => ⟨ix, nm_e (nm_r (nI_1 i) ?_)⟩) (fun e => ⟨ix, ?_⟩)⟩))))
    · rw [if_pos e] at hp
      obtain ⟨f, rfl⟩ : ∃ k, f = k + 1 := ⟨f - 1, by omega⟩
      exact pk_le 17 (i + 1) (fun _ => hp) (fun _ => br_t (nI_pos' (by omega)) hp)
    · rw [if_neg e] at hp
      by_cases e0 : x = 0
      · subst e0
        rw [if_pos rfl] at hp
        refine nm_r (cq_rP0 p) (nm_r (nI_1 i) ?_)
        obtain ⟨f, rfl⟩ : ∃ k, f = k + 1 := ⟨f - 1, by omega⟩
        exact pk_le 17 (i + 1) (fun _ => hp) (fun _ => br_f (by decide) (br_t (by decide) hp))
      · rw [if_neg e0] at hp
        have := hT x (by omega) hx
        exact nm_r (cq_rPp p e0 (by omega)) (nm_r (nI_1 i) (ih (p x) (i + 1) f (by omega) (by omega) (by omega) (by omega) hp))
theorem cq_y_p76 (hJ : cq_J c l n p g m) (hD : cq_D T' B' n p z) {s : Nat} (hs : s < n) (hp : wY_preempt_156 post J x1 x2 (nI s) (cq_oI (cq_fs p m z s)) (nI c) (nI l) (nI n) (nI (cq_t z)) (cq_P p) (cq_A g) (cq_A m) (cq_A (cq_r z)) (cq_A (cq_id z)) (cq_A (cq_cl z)) (cq_A (cq_cu z)) (cq_V (cq_lv z))) : wY_preempt_76 post J x1 x2 (nI s) (nI c) (nI l) (nI n) (nI (cq_t z)) (cq_P p) (cq_A g) (cq_A m) (cq_A (cq_r z)) (cq_A (cq_id z)) (cq_A (cq_cl z)) (cq_A (cq_cu z)) (cq_V (cq_lv z)) := by
  have hn := hJ.1.2.2.2.2
  unfold cq_fs at hp
  refine br_t (nI_pos' (by omega)) ⟨vp_in_nI (by omega) (by omega), ?_⟩
  by_cases e0 : s = 0
  · subst e0
    rw [if_pos rfl] at hp
    exact nm_r (cq_rP0 p) (Exists.intro 1 (pk_le 17 0 (fun h => by omega) (fun _ => br_f (by decide) (br_t (by decide) hp))))
  · rw [if_neg e0] at hp
    have := hJ.2.1 s (by omega) hs
    exact nm_r (cq_rPp p e0 (by omega)) (Exists.intro 18 (cq_y_p97 hJ hD 16 (p s) 0 18 (by omega) (by omega) (by omega) (by omega) hp))
theorem cq_y_vi (hJ : cq_J c l n p g m) (hD : cq_D T' B' n p z) (hT' : T' < 2 ^ 31) {a s : Nat} (ha : a < n) (hs : s < n) (h0 : cq_vi p g z a s 64 = none → post x1 (cq_Y c l n p g m z)) (h1 : ∀ v, cq_vi p g z a s 64 = some v → wpY_grant (fun r u => match u with
    | (f1, f2, f3, f4, a1, a2, a3, a4, a5, a6, a7, a8) => ∀ y1, y1 = x1 + 1 → ∀ y2, y2 = x2 + 1 → J y1 y2 f1 f2 f3 f4 a1 a2 a3 a4 a5 a6 a7 a8) (cq_Y c l n p g m (cq_rq z v)) (nI s)) : ∀ d i f, i + d = 64 → d < f → wY_preempt_170 post J x1 x2 (nI s) (nI a) (nI c) (nI l) (nI n) (nI (cq_t z)) (cq_P p) (cq_A g) (cq_A m) (cq_A (cq_r z)) (cq_A (cq_id z)) (cq_A (cq_cl z)) (cq_A (cq_cu z)) (cq_V (cq_lv z)) f (cq_oI (cq_vi p g z a s i)) (nI i) := by
  have hJ' := hJ
  obtain ⟨⟨k1, k2, k3, k4, hn⟩, hT, hg, hm, k0⟩ := hJ
  intro d
  induction d with
  | zero =>
    intro i f hi hf
    obtain ⟨f, rfl⟩ : ∃ k, f = k + 1 := ⟨f - 1, by omega⟩
    have e : i = 64 := by omega
    subst e
    refine pk_le 64 64 (fun _ => ?_) (fun h => by omega)
    cases ev : cq_vi p g z a s 64 with
    | none => exact br_f (by decide) (h0 ev)
    | some v =>
      obtain ⟨v1, v2, _⟩ := cq_vi_ok ev
      obtain ⟨b1, b2, b3, b4, b5⟩ := hD.2.2.2 v v2
      have iv : vp_in (nI v) 64 := vp_in_nI (by omega) (by omega)
      have ix : vp_in (nI (cq_cl z v) * 4 + nI (cq_cu z v)) 64 := by rw [cq_ix]; exact vp_in_nI (by omega) (by omega)
      refine br_t (nI_pos' (by omega)) ⟨iv, nm_r (cq_w_f (by omega)) ⟨iv, iv, ?_⟩⟩
      have r1 : cq_A (cq_cl z) (cq_oI (some v)).toNatClampNeg = nI (cq_cl z v) := cq_rA (cq_cl z) (show v < 2 ^ 31 by omega)
      have r2 : cq_A (cq_cu z) (cq_oI (some v)).toNatClampNeg = nI (cq_cu z v) := cq_rA (cq_cu z) (show v < 2 ^ 31 by omega)
      rw [r1, r2]
      exact ⟨ix, ix, nm_r (cq_w_inc (by omega)) (h1 v ev)⟩
  | succ d ih =>
    intro i f hi hf
    obtain ⟨f, rfl⟩ : ∃ k, f = k + 1 := ⟨f - 1, by omega⟩
    have ih' := ih (i + 1) f (by omega) (by omega)
    have ii : vp_in (nI i) 64 := vp_in_nI (by omega) (by omega)
    have ht := hD.1.2
    have keep : cq_bw p g z a s i = false → wY_preempt_170 post J x1 x2 (nI s) (nI a) (nI c) (nI l) (nI n) (nI (cq_t z)) (cq_P p) (cq_A g) (cq_A m) (cq_A (cq_r z)) (cq_A (cq_id z)) (cq_A (cq_cl z)) (cq_A (cq_cu z)) (cq_V (cq_lv z)) f (cq_oI (cq_vi p g z a s i)) (nI (i + 1)) := by
      intro e
      have e' : cq_vi p g z a s (i + 1) = cq_vi p g z a s i := cq_fo_k e
      rw [e'] at ih'
      exact ih'
    refine pk_le 64 i (fun h => by omega) (fun _ => ⟨ii, cq_vb (by omega) (fun e => nm_r (nI_1 i) (keep (cq_bw_f e))) (fun hl => ⟨ii, nm_r (cq_rA (cq_cl z) (by omega)) ?_⟩)⟩)
    obtain ⟨a1, a2, a3, a4, a5⟩ := hD.2.2.2 i hl
    have hu : cq_u p z (cq_cl z i) ≤ 64 := cq_us_le _ _ _ _
    have hgx := hg (cq_cl z i)
    have ebw : cq_bw p g z a s i = (!(cq_cl z i == s) && decide (g (cq_cl z i) < cq_u p z (cq_cl z i)) && cq_un p (cq_cl z i) a) := cq_bw_t hl
    refine pk_eq (cq_cl z i) s (fun e => nm_r (nI_1 i) (keep (by rw [ebw]; simp [e]))) (fun e => cq_y_isUnder hT hn a1 (by omega) (cq_b0 (fun e2 => nm_r (nI_1 i) (keep (by rw [ebw, e2]; simp))) (fun e2 => cq_y_usedOf hT hn hD (by omega) ⟨vp_in_nI (by omega) (by omega), cq_if (d := g (cq_cl z i) < cq_u p z (cq_cl z i)) (by rw [cq_rA g (by omega)]; exact nI_ltI (by omega) (by omega)) (fun e3 => ?_) (fun e3 => nm_r (nI_1 i) (keep (by rw [ebw]; simp; omega)))⟩)))
    have bw : cq_bw p g z a s i = true := by
      rw [ebw, e2]
      simp [e, e3]
    rw [cq_vi_s] at ih'
    cases es : cq_vi p g z a s i with
    | none =>
      rw [es] at ih'
      dsimp only at ih'
      rw [if_pos bw] at ih'
      exact br_t (by decide) (nm_r (nI_1 i) ih')
    | some j =>
      obtain ⟨j1, j2, _⟩ := cq_vi_ok es
      obtain ⟨b1, b2, b3, b4, b5⟩ := hD.2.2.2 j j2
      rw [es] at ih'
      dsimp only at ih'
      rw [bw, Bool.true_and] at ih'
      refine br_f (nI_pos (by omega)) ⟨ii, vp_in_nI (by omega) (by omega), cq_if (d := cq_id z i ≤ cq_id z j) (by
        show cq_A (cq_id z) (nI i).toNatClampNeg ≤ cq_A (cq_id z) (nI j).toNatClampNeg ↔ _
        rw [cq_rA (cq_id z) (by omega), cq_rA (cq_id z) (by omega)]
        exact nI_leI (by omega) (by omega)) (fun e4 => nm_r (nI_1 i) ?_) (fun e4 => nm_r (nI_1 i) ?_)⟩
      · rw [show cq_yb z i j = false by unfold cq_yb; simpa using e4] at ih'
        exact ih'
      · rw [show cq_yb z i j = true by unfold cq_yb; simpa using e4] at ih'
        exact ih'
theorem cq_y_pr (hJ : cq_J c l n p g m) : ∀ d i f z T' B', i + d = 64 → cq_D T' B' n p z → T' + d < 2 ^ 30 → B' + d < 2 ^ 30 → d < f → post (nI (i + cq_pn l n p g m d z)) (cq_Y c l n p g m (cq_pz l n p g m d z)) → wY_preempt_9 post f (nI i) (nI i) (nI c) (nI l) (nI n) (nI (cq_t z)) (cq_P p) (cq_A g) (cq_A m) (cq_A (cq_r z)) (cq_A (cq_id z)) (cq_A (cq_cl z)) (cq_A (cq_cu z)) (cq_V (cq_lv z)) := by
  have hJ' := hJ
  obtain ⟨⟨k1, k2, k3, k4, hn⟩, hT, hg, hm, k0⟩ := hJ
  intro d
  induction d with
  | zero =>
    intro i f z T' B' hi hD hT' hB hf hp
    obtain ⟨f, rfl⟩ : ∃ k, f = k + 1 := ⟨f - 1, by omega⟩
    exact pk_le 64 i (fun _ => hp) (fun h => by omega)
  | succ d ih =>
    intro i f z T' B' hi hD hT' hB hf hp
    obtain ⟨f, rfl⟩ : ∃ k, f = k + 1 := ⟨f - 1, by omega⟩
    rw [cq_pz_s, cq_pn_s] at hp
    refine pk_le 64 i (fun h => by omega) (fun _ => Exists.intro (n + 2) (cq_y_p20 hJ' hD (by omega) n 0 (n + 2) (by omega) (by omega) ?_))
    have e0 : cq_rd l n p g m z = none → post (nI i) (cq_Y c l n p g m z) := by
      intro e
      rw [e] at hp
      exact hp
    show wY_preempt_76 post (wY_preempt_9 post f) (nI i) (nI i) (cq_oI (cq_sv l n p g z)) (nI c) (nI l) (nI n) (nI (cq_t z)) (cq_P p) (cq_A g) (cq_A m) (cq_A (cq_r z)) (cq_A (cq_id z)) (cq_A (cq_cl z)) (cq_A (cq_cu z)) (cq_V (cq_lv z))
    cases es : cq_sv l n p g z with
    | none => exact br_f (by decide) (e0 (by unfold cq_rd; rw [es]))
    | some s =>
      obtain ⟨s1, s2, s3, s4⟩ := cq_sv_ok es
      refine cq_y_p76 hJ' hD s1 ?_
      cases ea : cq_fs p m z s with
      | none => exact br_f (by decide) (e0 (by unfold cq_rd; rw [es]; dsimp only; rw [ea]))
      | some a =>
        obtain ⟨a1, a2, a3⟩ := cq_fs_in hT s1 ea
        refine br_t (nI_pos' (by omega)) (Exists.intro 65 (cq_y_vi hJ' hD (by omega) a2 s1 (fun ev => e0 (by unfold cq_rd; rw [es]; dsimp only; rw [ea]; dsimp only; rw [ev])) (fun v ev => ?_) 64 0 65 (by omega) (by omega)))
        have erd : cq_rd l n p g m z = some (cq_gr l s (cq_rq z v)) := by unfold cq_rd; rw [es]; dsimp only; rw [ea]; dsimp only; rw [ev]
        rw [erd] at hp
        dsimp only at hp
        refine cq_y_grant hn k3 (cq_D_rq hD (cq_vi_ok ev).2.1) (by omega) s1 (nm_r (nI_1 i) (nm_r (nI_1 i) (ih (i + 1) f _ (T' + 1) (B' + 1) (by omega) (cq_rd_D hD erd) (by omega) (by omega) (by omega) ?_)))
        rw [show i + 1 + cq_pn l n p g m d (cq_gr l s (cq_rq z v)) = i + (cq_pn l n p g m d (cq_gr l s (cq_rq z v)) + 1) by omega]
        exact hp
theorem cq_y_preempt (hJ : cq_J c l n p g m) (hD : cq_D T' B' n p z) (hT' : T' + 128 < 2 ^ 30) (hB : B' + 64 < 2 ^ 30) (hp : post (nI (cq_pn l n p g m 64 (cq_fz l n p g m c z))) (cq_Y c l n p g m (cq_pz l n p g m 64 (cq_fz l n p g m c z)))) : wpY_preempt post (cq_Y c l n p g m z) := by
  have hh := hJ.1
  unfold wpY_preempt
  refine cq_y_fill hJ (by omega) hD (Exists.intro 65 (cq_y_pr hJ 64 0 65 _ (T' + c) B' (by omega) (cq_fz_D hJ.2.1 hh.2.2.2.1 hh.2.2.2.2 c T' z hD) (by omega) (by omega) (by omega) ?_))
  rw [Nat.zero_add]
  exact hp
end
end
section
/-! what the owed statements need besides -/
def cq_S (z : cq_Z) : Prop := ∀ i, cq_lv z i = true → i < 64
theorem cq_S_put {z : cq_Z} (h : cq_S z) {x y s : Nat} (hs : s < 64) : cq_S (cq_put z x y s) := by
  intro i hi
  have hi' : cq_ub (cq_lv z) s true i = true := hi
  by_cases e : i = s
  · omega
  · rw [cq_ub_n e] at hi'
    exact h i hi'
theorem cq_S_del {z : cq_Z} (h : cq_S z) (s : Nat) : cq_S (cq_del z s) := by
  intro i hi
  have hi' : cq_ub (cq_lv z) s false i = true := hi
  by_cases e : i = s
  · subst e
    rw [cq_ub_s] at hi'
    exact absurd hi' (by decide)
  · rw [cq_ub_n e] at hi'
    exact h i hi'
theorem cq_S_gr {z : cq_Z} (h : cq_S z) (l x : Nat) : cq_S (cq_gr l x z) := by
  cases e : cq_gb l x z with
  | false =>
    rw [cq_gr_no e]
    exact h
  | true =>
    obtain ⟨y, s, hy, hs, eq⟩ := cq_gr_yes e
    rw [eq]
    exact cq_S_put h (cq_sl_lt hs).1
theorem cq_S_fz {l n : Nat} {p g m : Nat → Nat} : ∀ d z, cq_S z → cq_S (cq_fz l n p g m d z) := by
  intro d
  induction d with
  | zero =>
    intro z h
    exact h
  | succ d ih =>
    intro z h
    unfold cq_fz
    by_cases ho : cq_on l n p m z 0 = true
    · rw [if_pos ho]
      exact ih _ (cq_S_gr h _ _)
    · rw [if_neg ho]
      exact h
theorem cq_S_pz {l n : Nat} {p g m : Nat → Nat} : ∀ d z, cq_S z → cq_S (cq_pz l n p g m d z) := by
  intro d
  induction d with
  | zero =>
    intro z h
    exact h
  | succ d ih =>
    intro z h
    rw [cq_pz_s]
    cases e : cq_rd l n p g m z with
    | none => exact h
    | some z' =>
      obtain ⟨s, a, v, h1, h2, h3, rfl⟩ := cq_rd_some e
      exact ih _ (cq_S_gr (show cq_S (cq_rq z v) from cq_S_del h v) _ _)
/-- the relation: one pure state behind both -/
def i_Rel (k : Nat) (u : SX) (v : SY) : Prop := ∃ (c l n : Nat) (p g m : Nat → Nat) (z : cq_Z) (op : Nat → Int32), u = cq_X c l n p g m z op ∧ v = cq_Y c l n p g m z ∧ cq_J c l n p g m ∧ cq_D (64 * k) (64 * k) n p z ∧ cq_S z
theorem cq_K {k : Nat} {c l n : Nat} {p g m : Nat → Nat} {z : cq_Z} {op : Nat → Int32} (hJ : cq_J c l n p g m) (hD : cq_D (64 * (k + 4)) (64 * (k + 4)) n p z) (hS : cq_S z) : i_Rel (k + 4) (cq_X c l n p g m z op) (cq_Y c l n p g m z) :=
  ⟨c, l, n, p, g, m, z, op, rfl, rfl, hJ, hD, hS⟩
theorem cq_clamp (v : Int32) : ∃ a : Nat, 1 ≤ a ∧ a ≤ 64 ∧ ∀ (P : Int32 → Prop), P (nI a) → ((1 ≤ v → ((v ≤ 64 → P v) ∧ (¬ v ≤ 64 → P 64))) ∧ (¬ 1 ≤ v → P 1)) := by
  by_cases h1 : 1 ≤ v
  · by_cases h2 : v ≤ 64
    · have h0 : ¬ v < 0 := fun w => absurd (Int32.lt_of_lt_of_le (by decide : (0 : Int32) < 1) h1) (fun w' => Int32.lt_irrefl (Int32.lt_trans w w'))
      obtain ⟨a, ha, rfl⟩ := nI_of h0
      rw [show (1 : Int32) = nI 1 from rfl, nI_leI (by decide) ha] at h1
      rw [show (64 : Int32) = nI 64 from rfl, nI_leI ha (by decide)] at h2
      exact ⟨a, h1, h2, fun P hP => br_t (nI_le h1 ha) (br_t (nI_le h2 (by decide)) hP)⟩
    · exact ⟨64, by decide, by decide, fun P hP => br_t h1 (br_f h2 hP)⟩
  · exact ⟨1, by decide, by decide, fun P hP => br_f h1 hP⟩
theorem cq_in1 {v : Int32} {b : Nat} (h0 : ¬ v < 0) (h1 : v ≤ nI b) (hb : b < 2 ^ 31) : ∃ a : Nat, a ≤ b ∧ v = nI a := by
  obtain ⟨a, ha, rfl⟩ := nI_of h0
  exact ⟨a, (nI_leI ha hb).mp h1, rfl⟩
section
variable {n : Nat} {v : Int32} {P Q : Prop}
theorem cq_noA (h : v < 0 ∨ nI n ≤ v) (hp : P) : (v < 0 → P) ∧ (¬ v < 0 → ((v < nI n → Q) ∧ (¬ v < nI n → P))) := by
  by_cases h0 : v < 0
  · exact br_t h0 hp
  · exact br_f h0 (br_f (Int32.not_lt.mpr (h.resolve_left h0)) hp)
theorem cq_noB (h : v < 0 ∨ nI n ≤ v) (hp : P) : (v < 0 → P) ∧ (¬ v < 0 → ((nI n ≤ v → P) ∧ (¬ nI n ≤ v → Q))) := by
  by_cases h0 : v < 0
  · exact br_t h0 hp
  · exact br_f h0 (br_t (h.resolve_left h0) hp)
theorem cq_noU (h : v < 0 ∨ nI 4 ≤ v) (hp : P) : (v < 0 → P) ∧ (¬ v < 0 → ((v ≤ 3 → Q) ∧ (¬ v ≤ 3 → P))) := by
  by_cases h0 : v < 0
  · exact br_t h0 hp
  · exact br_f h0 (br_f (Int32.not_le.mpr (Int32.lt_of_lt_of_le (by decide) (h.resolve_left h0))) hp)
theorem cq_yesA {j : Nat} (hn : n ≤ 16) (hj : j < n) (hq : Q) : (nI j < 0 → P) ∧ (¬ nI j < 0 → ((nI j < nI n → Q) ∧ (¬ nI j < nI n → P))) :=
  br_f (nI_pos (by omega)) (br_t (nI_lt hj (by omega)) hq)
theorem cq_yesB {j : Nat} (hn : n ≤ 16) (hj : j < n) (hq : Q) : (nI j < 0 → P) ∧ (¬ nI j < 0 → ((nI n ≤ nI j → P) ∧ (¬ nI n ≤ nI j → Q))) :=
  br_f (nI_pos (by omega)) (br_f (nI_ge hj (by omega)) hq)
theorem cq_yesU {j : Nat} (hj : j < 4) (hq : Q) : (nI j < 0 → P) ∧ (¬ nI j < 0 → ((nI j ≤ 3 → Q) ∧ (¬ nI j ≤ 3 → P))) :=
  br_f (nI_pos (by omega)) (br_t (show nI j ≤ nI 3 from nI_le (by omega) (by decide)) hq)
end
theorem cq_ix3 {v : Int32} {n : Nat} (hn : n < 2 ^ 31) : (v < 0 ∨ nI n ≤ v) ∨ ∃ j : Nat, j < n ∧ v = nI j := by
  rcases pk_ix v hn with h | h | h
  · exact Or.inl (Or.inl h)
  · exact Or.inl (Or.inr h)
  · exact Or.inr h
theorem cq_w_add {f : Nat → Nat} {x y : Nat} (d : Nat) (h : x * 4 + y < 2 ^ 31) : upd (cq_A f) (nI x * 4 + nI y).toNatClampNeg (cq_A f (nI x * 4 + nI y).toNatClampNeg + nI d) = cq_A (cq_up f (x * 4 + y) (f (x * 4 + y) + d)) := by
  rw [cq_ix, cq_rA f h, nI_clamp h, nI_add, cq_A_up]
theorem cq_w_zero {f : Nat → Nat} {x y : Nat} (h : x * 4 + y < 2 ^ 31) : upd (cq_A f) (nI x * 4 + nI y).toNatClampNeg 0 = cq_A (cq_up f (x * 4 + y) 0) := by
  rw [cq_ix, nI_clamp h]
  exact cq_A_up f (x * 4 + y) 0
section
variable {c l n : Nat} {p g m : Nat → Nat} {z : cq_Z} {T' B' : Nat}
theorem cq_y_complete (hD : cq_D T' B' n p z) (hT' : T' < 2 ^ 31) {post : Int32 → SY → Prop} {e : Nat} (he : e < 2 ^ 31) : ∀ d i f, i + d = 64 → d < f → (cq_fnd (cq_at z e) i d = none → post 0 (cq_Y c l n p g m z)) → (∀ s, cq_fnd (cq_at z e) i d = some s → post 1 (cq_Y c l n p g m (cq_del z s))) → wY_complete_8 post (nI e) (nI c) (nI l) (nI n) (nI (cq_t z)) (cq_P p) (cq_A g) (cq_A m) (cq_A (cq_r z)) (cq_A (cq_id z)) (cq_A (cq_cl z)) (cq_A (cq_cu z)) (cq_V (cq_lv z)) f (nI i) := by
  intro d
  induction d with
  | zero =>
    intro i f hi hf h0 h1
    obtain ⟨f, rfl⟩ : ∃ k, f = k + 1 := ⟨f - 1, by omega⟩
    exact pk_le 64 i (fun _ => h0 rfl) (fun h => by omega)
  | succ d ih =>
    intro i f hi hf h0 h1
    obtain ⟨f, rfl⟩ : ∃ k, f = k + 1 := ⟨f - 1, by omega⟩
    have ii : vp_in (nI i) 64 := vp_in_nI (by omega) (by omega)
    have ht := hD.1.2
    rw [cq_fnd_s] at h0 h1
    have nxt : cq_at z e i = false → wY_complete_8 post (nI e) (nI c) (nI l) (nI n) (nI (cq_t z)) (cq_P p) (cq_A g) (cq_A m) (cq_A (cq_r z)) (cq_A (cq_id z)) (cq_A (cq_cl z)) (cq_A (cq_cu z)) (cq_V (cq_lv z)) f (nI (i + 1)) := by
      intro w
      rw [if_neg (by rw [w]; decide)] at h0 h1
      exact ih (i + 1) f (by omega) (by omega) h0 h1
    refine pk_le 64 i (fun h => by omega) (fun _ => ⟨ii, cq_vb (by omega) (fun w => nm_r (nI_1 i) (nxt (by unfold cq_at; rw [w]; rfl))) (fun hl => ⟨ii, ?_⟩)⟩)
    obtain ⟨a1, a2, a3, a4, a5⟩ := hD.2.2.2 i hl
    refine cq_if (d := cq_id z i = e) (by rw [cq_rA (cq_id z) (by omega)]; exact nI_eq (by omega) he) (fun w => ⟨ii, nm_r (cq_w_f (by omega)) (h1 i ?_)⟩) (fun w => nm_r (nI_1 i) (nxt (by unfold cq_at; simp [w])))
    rw [if_pos]
    unfold cq_at
    rw [hl, w]
    simp
theorem cq_y_info (hD : cq_D T' B' n p z) (hT' : T' < 2 ^ 31) {post : Int32 → Prop} {e : Nat} (he : e < 2 ^ 31) : ∀ d i f, i + d = 64 → d < f → (cq_fnd (cq_at z e) i d = none → post (-1)) → (∀ s, cq_fnd (cq_at z e) i d = some s → post (nI (cq_cl z s * 4 + cq_cu z s))) → wY_containerInfo_8 post (nI e) (nI c) (nI l) (nI n) (nI (cq_t z)) (cq_P p) (cq_A g) (cq_A m) (cq_A (cq_r z)) (cq_A (cq_id z)) (cq_A (cq_cl z)) (cq_A (cq_cu z)) (cq_V (cq_lv z)) f (nI i) := by
  intro d
  induction d with
  | zero =>
    intro i f hi hf h0 h1
    obtain ⟨f, rfl⟩ : ∃ k, f = k + 1 := ⟨f - 1, by omega⟩
    exact pk_le 64 i (fun _ => h0 rfl) (fun h => by omega)
  | succ d ih =>
    intro i f hi hf h0 h1
    obtain ⟨f, rfl⟩ : ∃ k, f = k + 1 := ⟨f - 1, by omega⟩
    have ii : vp_in (nI i) 64 := vp_in_nI (by omega) (by omega)
    have ht := hD.1.2
    rw [cq_fnd_s] at h0 h1
    have nxt : cq_at z e i = false → wY_containerInfo_8 post (nI e) (nI c) (nI l) (nI n) (nI (cq_t z)) (cq_P p) (cq_A g) (cq_A m) (cq_A (cq_r z)) (cq_A (cq_id z)) (cq_A (cq_cl z)) (cq_A (cq_cu z)) (cq_V (cq_lv z)) f (nI (i + 1)) := by
      intro w
      rw [if_neg (by rw [w]; decide)] at h0 h1
      exact ih (i + 1) f (by omega) (by omega) h0 h1
    refine pk_le 64 i (fun h => by omega) (fun _ => ⟨ii, cq_vb (by omega) (fun w => nm_r (nI_1 i) (nxt (by unfold cq_at; rw [w]; rfl))) (fun hl => ⟨ii, ?_⟩)⟩)
    obtain ⟨a1, a2, a3, a4, a5⟩ := hD.2.2.2 i hl
    refine cq_if (d := cq_id z i = e) (by rw [cq_rA (cq_id z) (by omega)]; exact nI_eq (by omega) he) (fun w => ⟨ii, ii, ?_⟩) (fun w => nm_r (nI_1 i) (nxt (by unfold cq_at; simp [w])))
    rw [cq_rA (cq_cl z) (by omega), cq_rA (cq_cu z) (by omega), cq_ix]
    refine h1 i ?_
    rw [if_pos]
    unfold cq_at
    rw [hl, w]
    simp
theorem cq_y_a46 (hn : n ≤ 16) (hD : cq_D T' B' n p z) (hB : B' < 2 ^ 30) {post : Int32 → SY → Prop} {q : Nat} (hq : q < n) {v2 v3 : Int32} (h1 : cq_any (cq_pd z q) 4 = true → post (-1) (cq_Y c l n p g m z)) (h0 : cq_any (cq_pd z q) 4 = false → wY_addQueue_74 post (nI q) v2 v3 (nI c) (nI l) (nI n) (nI (cq_t z)) (cq_P p) (cq_A g) (cq_A m) (cq_A (cq_r z)) (cq_A (cq_id z)) (cq_A (cq_cl z)) (cq_A (cq_cu z)) (cq_V (cq_lv z))) : ∀ d k f, k + d = 4 → d < f → (∀ j, j < k → cq_pd z q j = false) → wY_addQueue_46 post (nI q) v2 v3 (nI c) (nI l) (nI n) (nI (cq_t z)) (cq_P p) (cq_A g) (cq_A m) (cq_A (cq_r z)) (cq_A (cq_id z)) (cq_A (cq_cl z)) (cq_A (cq_cu z)) (cq_V (cq_lv z)) f (nI k) := by
  intro d
  induction d with
  | zero =>
    intro k f hk hf hh
    obtain ⟨f, rfl⟩ : ∃ k, f = k + 1 := ⟨f - 1, by omega⟩
    exact pk_le 4 k (fun _ => h0 (cq_any_f fun j hj => hh j (by omega))) (fun h => by omega)
  | succ d ih =>
    intro k f hk hf hh
    obtain ⟨f, rfl⟩ : ∃ k, f = k + 1 := ⟨f - 1, by omega⟩
    have hr := hD.2.1 (q * 4 + k)
    refine pk_le 4 k (fun h => by omega) (fun _ => ⟨by rw [cq_ix]; exact vp_in_nI (by omega) (by omega), cq_if (d := cq_r z (q * 4 + k) = 0) (by rw [cq_ix]; exact cq_g0 (by omega) (by omega)) (fun e => nm_r (nI_1 k) (ih (k + 1) f (by omega) (by omega) (fun j hj => ?_))) (fun e => h1 (cq_any_iff.mpr ⟨k, by omega, by unfold cq_pd; simp; omega⟩))⟩)
    by_cases w : j = k
    · subst w
      unfold cq_pd
      simp [e]
    · exact hh j (by omega)
theorem cq_y_a145 {fc fl ft : Int32} {a1 a2 a3 a5 a6 a7 a8 : Nat → Int32} {r : Nat → Nat} (hn : n < 16) (hr : ∀ j, 4 * n ≤ j → r j = 0) {post : Int32 → SY → Prop} (hp : post (nI n) (fc, fl, nI (n + 1), ft, a1, a2, a3, cq_A r, a5, a6, a7, a8)) : ∀ d k f, k + d = 4 → d < f → wY_addQueue_145 post (nI n) fc fl (nI n) ft f (nI k) a1 a2 a3 (cq_A r) a5 a6 a7 a8 := by
  intro d
  induction d with
  | zero =>
    intro k f hk hf
    obtain ⟨f, rfl⟩ : ∃ k, f = k + 1 := ⟨f - 1, by omega⟩
    exact pk_le 4 k (fun _ => nm_r (nI_1 n) hp) (fun h => by omega)
  | succ d ih =>
    intro k f hk hf
    obtain ⟨f, rfl⟩ : ∃ k, f = k + 1 := ⟨f - 1, by omega⟩
    have e : cq_up r (n * 4 + k) 0 = r := by
      funext j
      by_cases w : j = n * 4 + k
      · subst w
        rw [cq_up_s, hr _ (by omega)]
      · exact cq_up_n w
    refine pk_le 4 k (fun h => by omega) (fun _ => ⟨by rw [cq_ix]; exact vp_in_nI (by omega) (by omega), nm_r (e' := cq_A r) (by rw [cq_w_zero (by omega), e]) (nm_r (nI_1 k) (ih (k + 1) f (by omega) (by omega)))⟩)
end
end
section
/-! addQueue and setCapacity -/
section
variable {k c l n : Nat} {p g m : Nat → Nat} {z : cq_Z} {op : Nat → Int32}
theorem cq_D_new (hT : cq_T p n) (h1 : 1 ≤ n) {T' B' : Nat} (hD : cq_D T' B' n p z) (hS : cq_S z) {j : Nat} (hj : j < n) (hb : cq_cc p n j = 0 → cq_u p z j = 0) : cq_D T' B' (n + 1) (cq_up p n j) z := by
  obtain ⟨a, b, d, e⟩ := hD
  refine ⟨a, b, fun i hi => d i (by omega), fun i hi => ?_⟩
  obtain ⟨e1, e2, e3, e4, e5⟩ := e i hi
  refine ⟨by omega, e2, e3, e4, ?_⟩
  rw [cq_cc_new h1, e5, if_neg]
  simp only [beq_iff_eq]
  intro w
  subst w
  have h0 : 0 < cq_u p z (cq_cl z i) := cq_cnt_pos (hS i hi) (by simp [hi, cq_un_self])
  have := hb e5
  omega
theorem cq_J_new (hJ : cq_J c l n p g m) (hn : n < 16) {j a b : Nat} (hj : j < n) (ha : a ≤ 64) (hb : b ≤ 64) : cq_J c l (n + 1) (cq_up p n j) (cq_up g n a) (cq_up m n b) := by
  obtain ⟨⟨h1, h2, h3, h4, h5⟩, hT, hg, hm, h0⟩ := hJ
  refine ⟨⟨h1, h2, h3, by omega, by omega⟩, fun q q1 q2 => ?_, fun q => ?_, fun q => ?_, ?_⟩
  · by_cases w : q = n
    · subst w
      rw [cq_up_s]
      exact hj
    · rw [cq_up_n w]
      exact hT q q1 (by omega)
  · have := hg q
    unfold cq_up
    split <;> omega
  · have := hm q
    unfold cq_up
    split <;> omega
  · rw [cq_up_n (by omega)]
    exact h0
theorem cq_vAdd (hJ : cq_J c l n p g m) (hD : cq_D (64 * k) (64 * k) n p z) (hS : cq_S z) (hk : k + 4 ≤ 2050) (K : i_Rel (k + 4) (cq_X c l n p g m z op) (cq_Y c l n p g m z)) (v1 v2 v3 : Int32) : wpX_addQueue (fun r u' => wpY_addQueue (fun r' v' => r' = r ∧ i_Rel (k + 4) u' v') (cq_Y c l n p g m z) v1 v2 v3) (cq_X c l n p g m z op) v1 v2 v3 := by
  have hJ' := hJ
  obtain ⟨⟨h1, h2, h3, h4, hn⟩, hT, hg, hm, h0⟩ := hJ
  by_cases e16 : n = 16
  · subst e16
    exact br_t (by decide) (br_t (by decide) ⟨rfl, K⟩)
  have nX : ¬ (16 : Int32) ≤ nI n := nI_ge (b := 16) (by omega) (by decide)
  have nY : ¬ nI n = 16 := fun w => e16 ((nI_eq (b := 16) (by omega) (by decide)).mp w)
  refine br_f nX ?_
  rcases cq_ix3 (v := v1) (n := n) (by omega) with h | ⟨j, hj, rfl⟩
  · exact cq_x_isQueue_no h (br_t rfl (br_f nY (cq_noA h ⟨rfl, K⟩)))
  refine cq_x_isQueue hn hj (br_f (by decide) (cq_x_isBusyLeaf hn hD (by omega) hj ?_))
  have ij : vp_in (nI j) 16 := vp_in_nI (by omega) (by omega)
  have iN : vp_in (nI n) 16 := vp_in_nI (by omega) (by omega)
  have hu : cq_u p z j ≤ 64 := cq_us_le _ _ _ _
  -- how the reference comes to its second part
  have yb : ∀ post : Int32 → SY → Prop, (cq_by n p z j = true → post (-1) (cq_Y c l n p g m z)) → (cq_by n p z j = false → wY_addQueue_74 post (nI j) v2 v3 (nI c) (nI l) (nI n) (nI (cq_t z)) (cq_P p) (cq_A g) (cq_A m) (cq_A (cq_r z)) (cq_A (cq_id z)) (cq_A (cq_cl z)) (cq_A (cq_cu z)) (cq_V (cq_lv z))) → wpY_addQueue post (cq_Y c l n p g m z) (nI j) v2 v3 := by
    intro post ht hf
    refine br_f nY (cq_yesA hn hj (cq_y_hasChildren hT hn h4 (by omega) ?_))
    unfold cq_by at ht hf
    by_cases e : cq_cc p n j = 0
    · rw [cq_hc_f e]
      rw [show decide (cq_cc p n j = 0) = true by simpa using e, Bool.true_and] at ht hf
      refine br_t rfl (cq_y_usedOf hT hn hD (by omega) (pk_le (cq_u p z j) 0 (fun w => ?_) (fun w => ?_)))
      · rw [show decide (0 < cq_u p z j) = false by simp; omega, Bool.false_or] at ht hf
        exact Exists.intro 5 (cq_y_a46 hn hD (by omega) hj ht hf 4 0 5 (by omega) (by omega) (fun j hj => by omega))
      · rw [show decide (0 < cq_u p z j) = true by simpa using w, Bool.true_or] at ht
        exact ht rfl
    · rw [cq_hc_t e]
      rw [show decide (cq_cc p n j = 0) = false by simpa using e, Bool.false_and] at hf
      exact br_f (by decide) (hf rfl)
  cases eb : cq_by n p z j with
  | true => exact br_f (by decide) (yb _ (fun _ => ⟨rfl, K⟩) (fun w => absurd (eb.symm.trans w) (by decide)))
  | false =>
    refine br_t rfl ?_
    have yf : ∀ post : Int32 → SY → Prop, wY_addQueue_74 post (nI j) v2 v3 (nI c) (nI l) (nI n) (nI (cq_t z)) (cq_P p) (cq_A g) (cq_A m) (cq_A (cq_r z)) (cq_A (cq_id z)) (cq_A (cq_cl z)) (cq_A (cq_cu z)) (cq_V (cq_lv z)) → wpY_addQueue post (cq_Y c l n p g m z) (nI j) v2 v3 := fun post hp => yb post (fun w => absurd (eb.symm.trans w) (by decide)) (fun _ => hp)
    by_cases c1 : v2 < 0
    · exact br_t c1 (yf _ (br_t c1 ⟨rfl, K⟩))
    by_cases c2 : v3 < v2
    · exact br_f c1 (br_t c2 (yf _ (br_f c1 (br_t c2 ⟨rfl, K⟩))))
    by_cases c3 : v3 ≤ nI c
    · have c4 : v2 ≤ v3 := Int32.not_lt.mp c2
      obtain ⟨b, hb, rfl⟩ := cq_in1 (b := c) (fun w => c1 (Int32.lt_of_le_of_lt c4 w)) c3 (by omega)
      obtain ⟨a, ha, rfl⟩ := cq_in1 (b := b) c1 c4 (by omega)
      have hcs := cq_cs_le (p := p) hg j n
      have hgj := hg j
      have hck : cq_ck p g j 16 n = cq_cs p g j n := cq_ck_lo hn
      have hm1 : ∀ i, i < 16 → (nI i = -1 ↔ i = 16) := fun i hi => ⟨fun w => absurd w (cq_m1 (by omega)), fun w => by omega⟩
      have yg : ∀ post : Int32 → SY → Prop, (cq_cs p g j n + a ≤ g j → (vp_in (nI n) 16 ∧ ∀ a1, a1 = upd (cq_P p) (nI n).toNatClampNeg (nI j) → (vp_in (nI n) 16 ∧ ∀ a2, a2 = upd (cq_A g) (nI n).toNatClampNeg (nI a) → (vp_in (nI n) 16 ∧ ∀ a3, a3 = upd (cq_A m) (nI n).toNatClampNeg (nI b) → ∃ f : Nat, wY_addQueue_145 post (nI n) (nI c) (nI l) (nI n) (nI (cq_t z)) f 0 a1 a2 a3 (cq_A (cq_r z)) (cq_A (cq_id z)) (cq_A (cq_cl z)) (cq_A (cq_cu z)) (cq_V (cq_lv z)))))) → (¬ cq_cs p g j n + a ≤ g j → post (-1) (cq_Y c l n p g m z)) → wpY_addQueue post (cq_Y c l n p g m z) (nI j) (nI a) (nI b) := by
        intro post ht hf
        refine yf post (br_f c1 (br_f c2 (br_t c3 (cq_y_childSum (s := 16) hJ' (by omega) hm1 ?_))))
        rw [hck]
        exact ⟨ij, cq_if (d := cq_cs p g j n + a ≤ g j) (by rw [cq_rA g (by omega), nI_add]; exact nI_leI (by omega) (by omega)) ht hf⟩
      refine br_f c1 (br_f c2 (br_t c3 (cq_x_childGuarantees hJ' (by omega) ⟨ij, cq_if (d := cq_cs p g j n + a ≤ g j) (by rw [cq_rA g (by omega), nI_add]; exact nI_leI (by omega) (by omega)) (fun w => ?_) (fun w => yg _ (fun w' => absurd w' w) (fun _ => ⟨rfl, K⟩))⟩)))
      have hbu : cq_cc p n j = 0 → cq_u p z j = 0 := by
        intro e
        unfold cq_by at eb
        rw [show decide (cq_cc p n j = 0) = true by simpa using e, Bool.true_and] at eb
        simp only [Bool.or_eq_false_iff, decide_eq_false_iff_not] at eb
        omega
      have ecc : upd (cq_A (cq_cc p n)) (nI j).toNatClampNeg (cq_A (cq_cc p n) (nI j).toNatClampNeg + 1) = cq_A (cq_cc (cq_up p n j) (n + 1)) := by
        rw [cq_rA _ (by omega), nI_clamp (by omega), nI_1, cq_A_up]
        congr 1
        funext q
        rw [cq_cc_new h4]
        by_cases w : q = j
        · subst w
          rw [cq_up_s, if_pos (by simp)]
        · rw [cq_up_n w, if_neg (by simp; omega)]
          rfl
      have eu : cq_u (cq_up p n j) z = cq_u p z := by
        funext q
        exact cq_us_new hT (fun i hi => (hD.2.2.2 i hi).1) q
      have eP : upd (cq_P p) (nI n).toNatClampNeg (nI j) = cq_P (cq_up p n j) := by
        rw [nI_clamp (by omega)]
        exact cq_P_up p j (by omega)
      refine nm_r (nI_1 n) ⟨iN, nm_r eP ⟨ij, ij, nm_r ecc ⟨iN, nm_r (cq_w_set a (by omega)) ⟨iN, nm_r (cq_w_set b (by omega)) ?_⟩⟩⟩⟩
      refine yg _ (fun _ => ⟨iN, nm_r eP ⟨iN, nm_r (cq_w_set a (by omega)) ⟨iN, nm_r (cq_w_set b (by omega)) (Exists.intro 5 (cq_y_a145 (by omega) hD.2.2.1 ⟨rfl, ?_⟩ 4 0 5 (by omega) (by omega)))⟩⟩⟩) (fun w' => absurd w w')
      have K' := cq_K (op := op) (k := k) (cq_J_new hJ' (by omega) hj (show a ≤ 64 by omega) (show b ≤ 64 by omega)) (cq_D_up (cq_D_new hT h4 hD hS hj hbu) (by omega) (by omega)) hS
      unfold cq_X at K'
      rw [eu] at K'
      exact K'
    · exact br_f c1 (br_f c2 (br_f c3 (yf _ (br_f c1 (br_f c2 (br_f c3 ⟨rfl, K⟩))))))
theorem cq_J_set (hJ : cq_J c l n p g m) {j a b : Nat} (hj : j ≠ 0) (ha : a ≤ 64) (hb : b ≤ 64) : cq_J c l n p (cq_up g j a) (cq_up m j b) := by
  obtain ⟨hh, hT, hg, hm, h0⟩ := hJ
  refine ⟨hh, hT, fun q => ?_, fun q => ?_, ?_⟩
  · have := hg q
    unfold cq_up
    split <;> omega
  · have := hm q
    unfold cq_up
    split <;> omega
  · rw [cq_up_n (fun w => hj w.symm)]
    exact h0
theorem cq_vSet (hJ : cq_J c l n p g m) (hD : cq_D (64 * k) (64 * k) n p z) (hS : cq_S z) (hk : k + 4 ≤ 2050) (K : i_Rel (k + 4) (cq_X c l n p g m z op) (cq_Y c l n p g m z)) (v1 v2 v3 : Int32) : wpX_setCapacity (fun r u' => wpY_setCapacity (fun r' v' => r' = r ∧ i_Rel (k + 4) u' v') (cq_Y c l n p g m z) v1 v2 v3) (cq_X c l n p g m z op) v1 v2 v3 := by
  have hJ' := hJ
  obtain ⟨⟨h1, h2, h3, h4, hn⟩, hT, hg, hm, h0⟩ := hJ
  unfold wpX_setCapacity
  rcases cq_ix3 (v := v1) (n := n) (by omega) with h | ⟨j, hj, rfl⟩
  · refine cq_x_isQueue_no h (br_t rfl ?_)
    by_cases w : v1 < 1
    · exact br_t w ⟨rfl, K⟩
    · refine br_f w (br_f ?_ ⟨rfl, K⟩)
      rcases h with h | h
      · exact absurd (Int32.lt_trans h (by decide)) w
      · exact Int32.not_lt.mpr h
  refine cq_x_isQueue hn hj (br_f (by decide) ?_)
  by_cases j0 : j = 0
  · subst j0
    exact br_t rfl (br_t (by decide) ⟨rfl, K⟩)
  have ij : vp_in (nI j) 16 := vp_in_nI (by omega) (by omega)
  have hpj := hT j (by omega) hj
  have hu : cq_u p z j ≤ 64 := cq_us_le _ _ _ _
  have y1 : ∀ {P Q : Prop}, Q → ((nI j < 1 → P) ∧ (¬ nI j < 1 → ((nI j < nI n → Q) ∧ (¬ nI j < nI n → P)))) := fun hq => br_f (show ¬ nI j < nI 1 from nI_nlt (by omega) (by omega)) (br_t (nI_lt hj (by omega)) hq)
  refine br_f (nI_ne0 (by omega) (by omega)) ?_
  by_cases c1 : v2 < 0
  · exact br_t c1 (y1 (br_t c1 ⟨rfl, K⟩))
  by_cases c2 : v3 < v2
  · exact br_f c1 (br_t c2 (y1 (br_f c1 (br_f (Int32.not_le.mpr c2) ⟨rfl, K⟩))))
  have c4 : v2 ≤ v3 := Int32.not_lt.mp c2
  by_cases c3 : nI c < v3
  · exact br_f c1 (br_f c2 (br_t c3 (y1 (br_f c1 (br_t c4 (br_f (Int32.not_le.mpr c3) ⟨rfl, K⟩))))))
  have c5 : v3 ≤ nI c := Int32.not_lt.mp c3
  obtain ⟨b, hb, rfl⟩ := cq_in1 (b := c) (fun w => c1 (Int32.lt_of_le_of_lt c4 w)) c5 (by omega)
  obtain ⟨a, ha, rfl⟩ := cq_in1 (b := b) c1 c4 (by omega)
  have hcs := cq_cs_le (p := p) hg j n
  have hcp := cq_cs_le (p := p) hg (p j) n
  have hgj := hg j
  have hgp := hg (p j)
  have hck : cq_ck p g j 16 n = cq_cs p g j n := cq_ck_lo hn
  have hcj : cq_cs p g (p j) n = cq_ck p g (p j) j n + g j := cq_ck_hi hj j0 rfl
  have hm1 : ∀ i, i < 16 → (nI i = -1 ↔ i = 16) := fun i hi => ⟨fun w => absurd w (cq_m1 (by omega)), fun w => by omega⟩
  have ip : vp_in (nI (p j)) 16 := vp_in_nI (by omega) (by omega)
  refine br_f c1 (br_f c2 (br_f c3 ⟨ij, ?_⟩))
  by_cases c6 : cq_u p z j ≤ b
  · refine br_t (by rw [cq_rA _ (by omega)]; exact nI_le c6 (by omega)) (cq_x_childGuarantees hJ' (by omega) ?_)
    have y2 : ∀ {post : Int32 → SY → Prop}, (_ : wpY_childSum (fun r_20 => (r_20 ≤ nI a → (vp_in (nI j) 16 ∧ ∀ x4, x4 = cq_P p (nI j).toNatClampNeg → wpY_childSum (fun r_36 => (vp_in x4 16 ∧ ((r_36 + nI a ≤ cq_A g x4.toNatClampNeg → (vp_in (nI j) 16 ∧ ∀ a1, a1 = upd (cq_A g) (nI j).toNatClampNeg (nI a) → (vp_in (nI j) 16 ∧ ∀ a2, a2 = upd (cq_A m) (nI j).toNatClampNeg (nI b) → post 1 (nI c, nI l, nI n, nI (cq_t z), cq_P p, a1, a2, cq_A (cq_r z), cq_A (cq_id z), cq_A (cq_cl z), cq_A (cq_cu z), cq_V (cq_lv z))))) ∧ (¬ r_36 + nI a ≤ cq_A g x4.toNatClampNeg → post 0 (cq_Y c l n p g m z))))) (cq_Y c l n p g m z) x4 (nI j))) ∧ (¬ r_20 ≤ nI a → post 0 (cq_Y c l n p g m z))) (cq_Y c l n p g m z) (nI j) (-1)) → wpY_setCapacity post (cq_Y c l n p g m z) (nI j) (nI a) (nI b) := fun h => y1 (br_f c1 (br_t c4 (br_t c5 (cq_y_usedOf hT hn hD (by omega) (br_t (nI_le c6 (by omega)) h)))))
    by_cases c7 : cq_cs p g j n ≤ a
    · refine br_t (nI_le c7 (by omega)) ⟨ij, nm_r (cq_rPp p j0 (by omega)) (cq_x_childGuarantees hJ' (by omega) ⟨ij, nm_r (e' := nI (cq_ck p g (p j) j n)) (by rw [cq_rA g (by omega), pk_sub (by omega)]; congr 1; omega) ⟨ip, cq_if (d := cq_ck p g (p j) j n + a ≤ g (p j)) (by rw [cq_rA g (by omega), nI_add]; exact nI_leI (by omega) (by omega)) (fun w => ?_) (fun w => ?_)⟩⟩)⟩
      · refine ⟨ij, nm_r (cq_w_set a (by omega)) ⟨ij, nm_r (cq_w_set b (by omega)) (y2 (cq_y_childSum (s := 16) hJ' (by omega) hm1 ?_))⟩⟩
        rw [hck]
        refine br_t (nI_le c7 (by omega)) ⟨ij, nm_r (cq_rPp p j0 (by omega)) (cq_y_childSum (s := j) hJ' (by omega) (fun i hi => nI_eq (by omega) (by omega)) ⟨ip, cq_if (d := cq_ck p g (p j) j n + a ≤ g (p j)) (by rw [cq_rA g (by omega), nI_add]; exact nI_leI (by omega) (by omega)) (fun _ => ⟨ij, nm_r (cq_w_set a (by omega)) ⟨ij, nm_r (cq_w_set b (by omega)) ⟨rfl, ?_⟩⟩⟩) (fun w' => absurd w w')⟩)⟩
        exact cq_K (cq_J_set hJ' j0 (by omega) (by omega)) (cq_D_up hD (by omega) (by omega)) hS
      · refine y2 (cq_y_childSum (s := 16) hJ' (by omega) hm1 ?_)
        rw [hck]
        exact br_t (nI_le c7 (by omega)) ⟨ij, nm_r (cq_rPp p j0 (by omega)) (cq_y_childSum (s := j) hJ' (by omega) (fun i hi => nI_eq (by omega) (by omega)) ⟨ip, cq_if (d := cq_ck p g (p j) j n + a ≤ g (p j)) (by rw [cq_rA g (by omega), nI_add]; exact nI_leI (by omega) (by omega)) (fun w' => absurd w' w) (fun _ => ⟨rfl, K⟩)⟩)⟩
    · refine br_f (nI_ge (by omega) (by omega)) (y2 (cq_y_childSum (s := 16) hJ' (by omega) hm1 ?_))
      rw [hck]
      exact br_f (nI_ge (by omega) (by omega)) ⟨rfl, K⟩
  · refine br_f (by rw [cq_rA _ (by omega)]; exact nI_ge (by omega) (by omega)) ?_
    exact y1 (br_f c1 (br_t c4 (br_t c5 (cq_y_usedOf hT hn hD (by omega) (br_f (nI_ge (by omega) (by omega)) ⟨rfl, K⟩)))))
end
end
section
theorem i_up {k : Nat} {u : SX} {v : SY} (h : i_Rel k u v) : i_Rel (k + 4) u v := by
  obtain ⟨c, l, n, p, g, m, z, op, e1, e2, hJ, hD, hS⟩ := h
  exact ⟨c, l, n, p, g, m, z, op, e1, e2, hJ, cq_D_up hD (by omega) (by omega), hS⟩
theorem i_vc0 (k0 : Int32) (k1 : Int32) : wpX_init (fun u => wpY_init (fun v => i_Rel 2 u v) k0 k1) k0 k1 := by
  obtain ⟨c, c1, c2, hc⟩ := cq_clamp k0
  obtain ⟨l, l1, l2, hl⟩ := cq_clamp k1
  have eP : upd (fun _ => 0) 0 (-1) = cq_P (fun _ => 0) := by
    funext j
    unfold upd cq_P
    by_cases w : j = 0
    · rw [if_pos w, if_pos w]
    · rw [if_neg w, if_neg w]
      rfl
  have eG : upd (fun _ => 0) 0 (nI c) = cq_A (cq_up (fun _ => 0) 0 c) := cq_A_up (fun _ => 0) 0 c
  have eC : cq_A (cq_cc (fun _ => 0) 1) = fun _ => 0 := by
    funext q
    rfl
  have eU : cq_A (cq_u (fun _ => 0) (1, fun _ => 0, fun _ => 0, fun _ => 0, fun _ => 0, fun _ => false)) = fun _ => 0 := by
    funext q
    exact congrArg nI (cq_cnt_0 (fun i _ => rfl))
  have eH : cq_A (cq_h (1, fun _ => 0, fun _ => 0, fun _ => 0, fun _ => 0, fun _ => false)) = fun _ => 0 := by
    funext q
    exact congrArg nI (cq_cnt_0 (fun i _ => rfl))
  have hcX : ∀ post : Int32 → Prop, post (nI c) → wpX_clampToUnits post k0 := fun post h => hc post h
  have hlX : ∀ post : Int32 → Prop, post (nI l) → wpX_clampToUnits post k1 := fun post h => hl post h
  unfold wpX_init
  refine hcX _ (hlX _ (nm_r eP (nm_r eG (nm_r eG ?_))))
  refine hc (fun r => wY_init_90 _ k1 r 0 0 0 0 (fun _ => 0) (fun _ => 0) (fun _ => 0) (fun _ => 0) (fun _ => 0) (fun _ => 0) (fun _ => 0) (fun _ => 0)) (hl (fun r => wY_init_115 _ r (nI c) 0 0 0 (fun _ => 0) (fun _ => 0) (fun _ => 0) (fun _ => 0) (fun _ => 0) (fun _ => 0) (fun _ => 0) (fun _ => 0)) (nm_r eP (nm_r eG (nm_r eG ?_))))
  refine ⟨c, l, 1, fun _ => 0, cq_up (fun _ => 0) 0 c, cq_up (fun _ => 0) 0 c, (1, fun _ => 0, fun _ => 0, fun _ => 0, fun _ => 0, fun _ => false), fun _ => 0, ?_, rfl, ⟨⟨c1, c2, l2, by omega, by omega⟩, fun q h1 h2 => by omega, fun q => ?_, fun q => ?_, cq_up_s _ _ _⟩, ⟨⟨by decide, by decide⟩, fun j => Nat.zero_le _, fun j _ => rfl, fun i hi => absurd hi (show ¬ (false = true) by decide)⟩, fun i hi => absurd hi (show ¬ (false = true) by decide)⟩
  · unfold cq_X
    rw [eC, eU, eH]
    rfl
  · show (if q = 0 then c else 0) ≤ 64
    split <;> omega
  · show (if q = 0 then c else 0) ≤ 64
    split <;> omega
theorem i_vc_addQueue {k : Nat} {u : SX} {v : SY} (I : i_Rel k u v) (hk : k + 4 ≤ 2050) (v1 : Int32) (v2 : Int32) (v3 : Int32) : wpX_addQueue (fun r u' => wpY_addQueue (fun r' v' => r' = r ∧ i_Rel (k + 4) u' v') v v1 v2 v3) u v1 v2 v3 := by
  obtain ⟨c, l, n, p, g, m, z, op, rfl, rfl, hJ, hD, hS⟩ := I
  have K : i_Rel (k + 4) (cq_X c l n p g m z op) (cq_Y c l n p g m z) := cq_K hJ (cq_D_up hD (by omega) (by omega)) hS
  exact cq_vAdd hJ hD hS hk K v1 v2 v3
theorem i_vc_setCapacity {k : Nat} {u : SX} {v : SY} (I : i_Rel k u v) (hk : k + 4 ≤ 2050) (v1 : Int32) (v2 : Int32) (v3 : Int32) : wpX_setCapacity (fun r u' => wpY_setCapacity (fun r' v' => r' = r ∧ i_Rel (k + 4) u' v') v v1 v2 v3) u v1 v2 v3 := by
  obtain ⟨c, l, n, p, g, m, z, op, rfl, rfl, hJ, hD, hS⟩ := I
  have K : i_Rel (k + 4) (cq_X c l n p g m z op) (cq_Y c l n p g m z) := cq_K hJ (cq_D_up hD (by omega) (by omega)) hS
  exact cq_vSet hJ hD hS hk K v1 v2 v3
theorem i_vc_submit {k : Nat} {u : SX} {v : SY} (I : i_Rel k u v) (hk : k + 4 ≤ 2050) (v1 : Int32) (v2 : Int32) (v3 : Int32) : wpX_submit (fun r u' => wpY_submit (fun r' v' => r' = r ∧ i_Rel (k + 4) u' v') v v1 v2 v3) u v1 v2 v3 := by
  obtain ⟨c, l, n, p, g, m, z, op, rfl, rfl, hJ, hD, hS⟩ := I
  have K : i_Rel (k + 4) (cq_X c l n p g m z op) (cq_Y c l n p g m z) := cq_K hJ (cq_D_up hD (by omega) (by omega)) hS
  have hn := hJ.1.2.2.2.2
  have h4 := hJ.1.2.2.2.1
  have hT := hJ.2.1
  unfold wpX_submit
  rcases cq_ix3 (v := v1) (n := n) (by omega) with h | ⟨j, hj, rfl⟩
  · exact cq_x_isLeaf_no h (br_t rfl (cq_noB h ⟨rfl, K⟩))
  · refine cq_x_isLeaf hn hj ?_
    by_cases e : cq_cc p n j = 0
    · rw [cq_hc_f e]
      refine br_f (by decide) ?_
      have yl : ∀ {P : Prop} {post : Int32 → Prop}, post 0 → (wpY_hasChildren post (cq_Y c l n p g m z) (nI j)) := fun hp => cq_y_hasChildren hT hn h4 (by omega) (by rw [cq_hc_f e]; exact hp)
      rcases cq_ix3 (v := v2) (n := 4) (by omega) with h | ⟨u, hu, rfl⟩
      · exact cq_x_isUser_no h (br_t rfl (cq_yesB hn hj (yl (P := True) (br_t rfl (cq_noU h ⟨rfl, K⟩)))))
      · refine cq_x_isUser hu (br_f (by decide) ?_)
        by_cases h1 : v3 < 1
        · exact br_t h1 (cq_yesB hn hj (yl (P := True) (br_t rfl (cq_yesU hu (br_t h1 ⟨rfl, K⟩)))))
        · by_cases h2 : v3 ≤ 64
          · obtain ⟨d, hd, rfl⟩ := cq_in1 (b := 64) (fun w => h1 (Int32.lt_trans w (by decide))) h2 (by decide)
            have ix : vp_in (nI j * 4 + nI u) 64 := by rw [cq_ix]; exact vp_in_nI (by omega) (by omega)
            have hr := hD.2.1 (j * 4 + u)
            refine br_f h1 (br_t h2 ⟨ix, ix, nm_r (cq_w_add d (by omega)) ?_⟩)
            refine cq_yesB hn hj (yl (P := True) (br_t rfl (cq_yesU hu (br_f h1 (br_t h2 ⟨ix, ix, nm_r (cq_w_add d (by omega)) ⟨rfl, ?_⟩⟩)))))
            exact cq_K (z := cq_sr z (j * 4 + u) (cq_r z (j * 4 + u) + d)) hJ (cq_D_up (cq_D_sr (B' := 64 * (k + 4)) hD (by omega) (by omega) (by omega)) (by omega) (Nat.le_refl _)) hS
          · exact br_f h1 (br_f h2 (cq_yesB hn hj (yl (P := True) (br_t rfl (cq_yesU hu (br_f h1 (br_f h2 ⟨rfl, K⟩)))))))
    · rw [cq_hc_t e]
      exact br_t rfl (cq_yesB hn hj (cq_y_hasChildren hT hn h4 (by omega) (by rw [cq_hc_t e]; exact br_f (by decide) ⟨rfl, K⟩)))
theorem i_vc_cancel {k : Nat} {u : SX} {v : SY} (I : i_Rel k u v) (hk : k + 4 ≤ 2050) (v1 : Int32) (v2 : Int32) : wpX_cancel (fun r u' => wpY_cancel (fun r' v' => r' = r ∧ i_Rel (k + 4) u' v') v v1 v2) u v1 v2 := by
  obtain ⟨c, l, n, p, g, m, z, op, rfl, rfl, hJ, hD, hS⟩ := I
  have K : i_Rel (k + 4) (cq_X c l n p g m z op) (cq_Y c l n p g m z) := cq_K hJ (cq_D_up hD (by omega) (by omega)) hS
  have hn := hJ.1.2.2.2.2
  have h4 := hJ.1.2.2.2.1
  have hT := hJ.2.1
  unfold wpX_cancel
  rcases cq_ix3 (v := v1) (n := n) (by omega) with h | ⟨j, hj, rfl⟩
  · exact cq_x_isLeaf_no h (br_t rfl (cq_noB h ⟨rfl, K⟩))
  · refine cq_x_isLeaf hn hj ?_
    by_cases e : cq_cc p n j = 0
    · rw [cq_hc_f e]
      refine br_f (by decide) ?_
      have yl : ∀ {P : Prop} {post : Int32 → Prop}, post 0 → (wpY_hasChildren post (cq_Y c l n p g m z) (nI j)) := fun hp => cq_y_hasChildren hT hn h4 (by omega) (by rw [cq_hc_f e]; exact hp)
      rcases cq_ix3 (v := v2) (n := 4) (by omega) with h | ⟨u, hu, rfl⟩
      · exact cq_x_isUser_no h (br_t rfl (cq_yesB hn hj (yl (P := True) (br_t rfl (cq_noU h ⟨rfl, K⟩)))))
      · refine cq_x_isUser hu (br_f (by decide) ?_)
        have ix : vp_in (nI j * 4 + nI u) 64 := by rw [cq_ix]; exact vp_in_nI (by omega) (by omega)
        refine ⟨ix, nm_e ⟨ix, nm_r (cq_w_zero (by omega)) ?_⟩⟩
        refine cq_yesB hn hj (yl (P := True) (br_t rfl (cq_yesU hu ⟨ix, nm_e ⟨ix, nm_r (cq_w_zero (by omega)) ⟨rfl, ?_⟩⟩⟩)))
        exact cq_K (z := cq_sr z (j * 4 + u) 0) hJ (cq_D_up (cq_D_sr (B' := 64 * (k + 4)) hD (by omega) (by omega) (by omega)) (by omega) (Nat.le_refl _)) hS
    · rw [cq_hc_t e]
      exact br_t rfl (cq_yesB hn hj (cq_y_hasChildren hT hn h4 (by omega) (by rw [cq_hc_t e]; exact br_f (by decide) ⟨rfl, K⟩)))
theorem i_vc_complete {k : Nat} {u : SX} {v : SY} (I : i_Rel k u v) (hk : k + 4 ≤ 2050) (v1 : Int32) : wpX_complete (fun r u' => wpY_complete (fun r' v' => r' = r ∧ i_Rel (k + 4) u' v') v v1) u v1 := by
  obtain ⟨c, l, n, p, g, m, z, op, rfl, rfl, hJ, hD, hS⟩ := I
  have K : i_Rel (k + 4) (cq_X c l n p g m z op) (cq_Y c l n p g m z) := cq_K hJ (cq_D_up hD (by omega) (by omega)) hS
  have hn := hJ.1.2.2.2.2
  have hT := hJ.2.1
  unfold wpX_complete
  by_cases h0 : 0 < v1
  · obtain ⟨d, hd, rfl⟩ := nI_of (x := v1) (fun w => Int32.lt_irrefl (Int32.lt_trans w h0))
    have hd0 : 0 < d := by
      rw [show (0 : Int32) = nI 0 from rfl, nI_ltI (by decide) hd] at h0
      exact h0
    refine cq_x_slotOf hD (by omega) hd0 hd ?_
    cases e : cq_fnd (cq_at z d) 0 64 with
    | none => exact br_t rfl (br_t h0 (Exists.intro 65 (cq_y_complete hD (by omega) hd 64 0 65 (by omega) (by omega) (fun _ => ⟨rfl, K⟩) (fun s es => absurd (e.symm.trans es) (by simp)))))
    | some s =>
      obtain ⟨a, _, b⟩ := cq_fnd_some e
      have hl : cq_lv z s = true := by
        unfold cq_at at a
        simp only [Bool.and_eq_true] at a
        exact a.1
      refine br_f (cq_m1 (by omega)) (cq_x_remove hT hn hD (by omega) hl ?_)
      refine br_t h0 (Exists.intro 65 (cq_y_complete hD (by omega) hd 64 0 65 (by omega) (by omega) (fun es => absurd (es.symm.trans e) (by simp)) (fun s' es => ⟨rfl, ?_⟩)))
      cases e.symm.trans es
      exact cq_K hJ (cq_D_up (cq_D_del hD s) (by omega) (by omega)) (cq_S_del hS s)
  · exact br_f h0 (br_t rfl (br_f h0 ⟨rfl, K⟩))
theorem i_vc_schedule {k : Nat} {u : SX} {v : SY} (I : i_Rel k u v) (hk : k + 4 ≤ 2050) : wpX_schedule (fun r u' => wpY_schedule (fun r' v' => r' = r ∧ i_Rel (k + 4) u' v') v) u := by
  obtain ⟨c, l, n, p, g, m, z, op, rfl, rfl, hJ, hD, hS⟩ := I
  have hh := hJ.1
  unfold wpX_schedule wpY_schedule
  refine cq_x_fill hJ (by omega) hD (by omega) (fun op' => cq_y_fill hJ (by omega) hD ⟨rfl, cq_K hJ ?_ (cq_S_fz c z hS)⟩)
  exact cq_D_up (cq_fz_D hJ.2.1 hh.2.2.2.1 hh.2.2.2.2 c _ z hD) (by omega) (by omega)
theorem i_vc_preempt {k : Nat} {u : SX} {v : SY} (I : i_Rel k u v) (hk : k + 4 ≤ 2050) : wpX_preempt (fun r u' => wpY_preempt (fun r' v' => r' = r ∧ i_Rel (k + 4) u' v') v) u := by
  obtain ⟨c, l, n, p, g, m, z, op, rfl, rfl, hJ, hD, hS⟩ := I
  have hh := hJ.1
  refine cq_x_preempt hJ hD (by omega) (by omega) (fun op' => cq_y_preempt hJ hD (by omega) (by omega) ⟨rfl, cq_K hJ ?_ (cq_S_pz 64 _ (cq_S_fz c z hS))⟩)
  exact cq_D_up (cq_pz_D 64 _ _ _ (cq_fz_D hJ.2.1 hh.2.2.2.1 hh.2.2.2.2 c _ z hD)) (by omega) (by omega)
theorem i_vc_queueCount {k : Nat} {u : SX} {v : SY} (I : i_Rel k u v) (hk : k + 4 ≤ 2050) : wpX_queueCount (fun r => wpY_queueCount (fun r' => r' = r ∧ i_Rel (k + 4) u v) v) u := by
  obtain ⟨c, l, n, p, g, m, z, op, rfl, rfl, hJ, hD, hS⟩ := I
  exact And.intro rfl (cq_K hJ (cq_D_up hD (by omega) (by omega)) hS)
theorem i_vc_parentOf {k : Nat} {u : SX} {v : SY} (I : i_Rel k u v) (hk : k + 4 ≤ 2050) (v1 : Int32) : wpX_parentOf (fun r => wpY_parentOf (fun r' => r' = r ∧ i_Rel (k + 4) u v) v v1) u v1 := by
  obtain ⟨c, l, n, p, g, m, z, op, rfl, rfl, hJ, hD, hS⟩ := I
  have K : i_Rel (k + 4) (cq_X c l n p g m z op) (cq_Y c l n p g m z) := cq_K hJ (cq_D_up hD (by omega) (by omega)) hS
  have hn := hJ.1.2.2.2.2
  unfold wpX_parentOf
  rcases cq_ix3 (v := v1) (n := n) (by omega) with h | ⟨j, hj, rfl⟩
  · exact cq_x_isQueue_no h (br_t rfl (cq_noA h ⟨rfl, K⟩))
  · have ij : vp_in (nI j) 16 := vp_in_nI (by omega) (by omega)
    exact cq_x_isQueue hn hj (br_f (by decide) ⟨ij, cq_yesA hn hj ⟨ij, rfl, K⟩⟩)
theorem i_vc_guarantee {k : Nat} {u : SX} {v : SY} (I : i_Rel k u v) (hk : k + 4 ≤ 2050) (v1 : Int32) : wpX_guarantee (fun r => wpY_guarantee (fun r' => r' = r ∧ i_Rel (k + 4) u v) v v1) u v1 := by
  obtain ⟨c, l, n, p, g, m, z, op, rfl, rfl, hJ, hD, hS⟩ := I
  have K : i_Rel (k + 4) (cq_X c l n p g m z op) (cq_Y c l n p g m z) := cq_K hJ (cq_D_up hD (by omega) (by omega)) hS
  have hn := hJ.1.2.2.2.2
  unfold wpX_guarantee
  rcases cq_ix3 (v := v1) (n := n) (by omega) with h | ⟨j, hj, rfl⟩
  · exact cq_x_isQueue_no h (br_t rfl (cq_noA h ⟨rfl, K⟩))
  · have ij : vp_in (nI j) 16 := vp_in_nI (by omega) (by omega)
    exact cq_x_isQueue hn hj (br_f (by decide) ⟨ij, cq_yesA hn hj ⟨ij, rfl, K⟩⟩)
theorem i_vc_maxCapacity {k : Nat} {u : SX} {v : SY} (I : i_Rel k u v) (hk : k + 4 ≤ 2050) (v1 : Int32) : wpX_maxCapacity (fun r => wpY_maxCapacity (fun r' => r' = r ∧ i_Rel (k + 4) u v) v v1) u v1 := by
  obtain ⟨c, l, n, p, g, m, z, op, rfl, rfl, hJ, hD, hS⟩ := I
  have K : i_Rel (k + 4) (cq_X c l n p g m z op) (cq_Y c l n p g m z) := cq_K hJ (cq_D_up hD (by omega) (by omega)) hS
  have hn := hJ.1.2.2.2.2
  unfold wpX_maxCapacity
  rcases cq_ix3 (v := v1) (n := n) (by omega) with h | ⟨j, hj, rfl⟩
  · exact cq_x_isQueue_no h (br_t rfl (cq_noA h ⟨rfl, K⟩))
  · have ij : vp_in (nI j) 16 := vp_in_nI (by omega) (by omega)
    exact cq_x_isQueue hn hj (br_f (by decide) ⟨ij, cq_yesA hn hj ⟨ij, rfl, K⟩⟩)
theorem i_vc_used {k : Nat} {u : SX} {v : SY} (I : i_Rel k u v) (hk : k + 4 ≤ 2050) (v1 : Int32) : wpX_used (fun r => wpY_used (fun r' => r' = r ∧ i_Rel (k + 4) u v) v v1) u v1 := by
  obtain ⟨c, l, n, p, g, m, z, op, rfl, rfl, hJ, hD, hS⟩ := I
  have K : i_Rel (k + 4) (cq_X c l n p g m z op) (cq_Y c l n p g m z) := cq_K hJ (cq_D_up hD (by omega) (by omega)) hS
  have hn := hJ.1.2.2.2.2
  unfold wpX_used
  rcases cq_ix3 (v := v1) (n := n) (by omega) with h | ⟨j, hj, rfl⟩
  · exact cq_x_isQueue_no h (br_t rfl (cq_noA h ⟨rfl, K⟩))
  · have ij : vp_in (nI j) 16 := vp_in_nI (by omega) (by omega)
    exact cq_x_isQueue hn hj (br_f (by decide) ⟨ij, cq_yesA hn hj (cq_y_usedOf hJ.2.1 hn hD (by omega) ⟨(cq_rA _ (by omega)).symm, K⟩)⟩)
theorem i_vc_pending {k : Nat} {u : SX} {v : SY} (I : i_Rel k u v) (hk : k + 4 ≤ 2050) (v1 : Int32) (v2 : Int32) : wpX_pending (fun r => wpY_pending (fun r' => r' = r ∧ i_Rel (k + 4) u v) v v1 v2) u v1 v2 := by
  obtain ⟨c, l, n, p, g, m, z, op, rfl, rfl, hJ, hD, hS⟩ := I
  have K : i_Rel (k + 4) (cq_X c l n p g m z op) (cq_Y c l n p g m z) := cq_K hJ (cq_D_up hD (by omega) (by omega)) hS
  have hn := hJ.1.2.2.2.2
  have h4 := hJ.1.2.2.2.1
  unfold wpX_pending
  rcases cq_ix3 (v := v1) (n := n) (by omega) with h | ⟨j, hj, rfl⟩
  · exact cq_x_isQueue_no h (br_t rfl (cq_noB h ⟨rfl, K⟩))
  · refine cq_x_isQueue hn hj (br_f (by decide) ?_)
    rcases cq_ix3 (v := v2) (n := 4) (by omega) with h | ⟨u, hu, rfl⟩
    · exact cq_x_isUser_no h (br_t rfl (cq_yesB hn hj (cq_noU h ⟨rfl, K⟩)))
    · have ix : vp_in (nI j * 4 + nI u) 64 := by rw [cq_ix]; exact vp_in_nI (by omega) (by omega)
      refine cq_x_isUser hu (br_f (by decide) (cq_x_isLeaf hn hj ?_))
      by_cases e : cq_cc p n j = 0
      · rw [cq_hc_f e]
        exact br_f (by decide) ⟨ix, cq_yesB hn hj (cq_yesU hu (cq_y_hasChildren hJ.2.1 hn h4 (by omega) (by rw [cq_hc_f e]; exact br_t rfl ⟨ix, rfl, K⟩)))⟩
      · rw [cq_hc_t e]
        exact br_t rfl (cq_yesB hn hj (cq_yesU hu (cq_y_hasChildren hJ.2.1 hn h4 (by omega) (by rw [cq_hc_t e]; exact br_f (by decide) ⟨rfl, K⟩))))
theorem i_vc_userUsed {k : Nat} {u : SX} {v : SY} (I : i_Rel k u v) (hk : k + 4 ≤ 2050) (v1 : Int32) (v2 : Int32) : wpX_userUsed (fun r => wpY_userUsed (fun r' => r' = r ∧ i_Rel (k + 4) u v) v v1 v2) u v1 v2 := by
  obtain ⟨c, l, n, p, g, m, z, op, rfl, rfl, hJ, hD, hS⟩ := I
  have K : i_Rel (k + 4) (cq_X c l n p g m z op) (cq_Y c l n p g m z) := cq_K hJ (cq_D_up hD (by omega) (by omega)) hS
  have hn := hJ.1.2.2.2.2
  have h4 := hJ.1.2.2.2.1
  unfold wpX_userUsed
  rcases cq_ix3 (v := v1) (n := n) (by omega) with h | ⟨j, hj, rfl⟩
  · exact cq_x_isQueue_no h (br_t rfl (cq_noB h ⟨rfl, K⟩))
  · refine cq_x_isQueue hn hj (br_f (by decide) ?_)
    rcases cq_ix3 (v := v2) (n := 4) (by omega) with h | ⟨u, hu, rfl⟩
    · exact cq_x_isUser_no h (br_t rfl (cq_yesB hn hj (cq_noU h ⟨rfl, K⟩)))
    · have ix : vp_in (nI j * 4 + nI u) 64 := by rw [cq_ix]; exact vp_in_nI (by omega) (by omega)
      refine cq_x_isUser hu (br_f (by decide) (cq_x_isLeaf hn hj ?_))
      by_cases e : cq_cc p n j = 0
      · rw [cq_hc_f e]
        refine br_f (by decide) ⟨ix, cq_yesB hn hj (cq_yesU hu (cq_y_hasChildren hJ.2.1 hn h4 (by omega) ?_))⟩
        rw [cq_hc_f e]
        refine br_t rfl (cq_y_userUsedOf hn hD hj hu ⟨?_, K⟩)
        rw [cq_ix, cq_rA _ (by omega)]
      · rw [cq_hc_t e]
        exact br_t rfl (cq_yesB hn hj (cq_yesU hu (cq_y_hasChildren hJ.2.1 hn h4 (by omega) (by rw [cq_hc_t e]; exact br_f (by decide) ⟨rfl, K⟩))))
theorem i_vc_userLimit {k : Nat} {u : SX} {v : SY} (I : i_Rel k u v) (hk : k + 4 ≤ 2050) : wpX_userLimit (fun r => wpY_userLimit (fun r' => r' = r ∧ i_Rel (k + 4) u v) v) u := by
  obtain ⟨c, l, n, p, g, m, z, op, rfl, rfl, hJ, hD, hS⟩ := I
  exact And.intro rfl (cq_K hJ (cq_D_up hD (by omega) (by omega)) hS)
theorem i_vc_containerInfo {k : Nat} {u : SX} {v : SY} (I : i_Rel k u v) (hk : k + 4 ≤ 2050) (v1 : Int32) : wpX_containerInfo (fun r => wpY_containerInfo (fun r' => r' = r ∧ i_Rel (k + 4) u v) v v1) u v1 := by
  obtain ⟨c, l, n, p, g, m, z, op, rfl, rfl, hJ, hD, hS⟩ := I
  have K : i_Rel (k + 4) (cq_X c l n p g m z op) (cq_Y c l n p g m z) := cq_K hJ (cq_D_up hD (by omega) (by omega)) hS
  unfold wpX_containerInfo
  by_cases h0 : 0 < v1
  · obtain ⟨d, hd, rfl⟩ := nI_of (x := v1) (fun w => Int32.lt_irrefl (Int32.lt_trans w h0))
    have hd0 : 0 < d := by
      rw [show (0 : Int32) = nI 0 from rfl, nI_ltI (by decide) hd] at h0
      exact h0
    refine cq_x_slotOf hD (by omega) hd0 hd ?_
    cases e : cq_fnd (cq_at z d) 0 64 with
    | none => exact br_t rfl (br_t h0 (Exists.intro 65 (cq_y_info hD (by omega) hd 64 0 65 (by omega) (by omega) (fun _ => ⟨rfl, K⟩) (fun s es => absurd (e.symm.trans es) (by simp)))))
    | some s =>
      obtain ⟨a, _, b⟩ := cq_fnd_some e
      have is : vp_in (nI s) 64 := vp_in_nI (by omega) (by omega)
      refine br_f (cq_m1 (by omega)) ⟨is, is, br_t h0 (Exists.intro 65 (cq_y_info hD (by omega) hd 64 0 65 (by omega) (by omega) (fun es => absurd (es.symm.trans e) (by simp)) (fun s' es => ⟨?_, K⟩)))⟩
      cases e.symm.trans es
      show nI (cq_cl z s * 4 + cq_cu z s) = cq_A (cq_cl z) (nI s).toNatClampNeg * 4 + cq_A (cq_cu z) (nI s).toNatClampNeg
      rw [cq_rA _ (by omega), cq_rA _ (by omega), cq_ix]
  · exact br_f h0 (br_t rfl (br_f h0 ⟨rfl, K⟩))
end
