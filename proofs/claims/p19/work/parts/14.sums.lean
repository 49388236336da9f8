/-! sums over the tree -/
theorem cq_un_cmp {p : Nat → Nat} {n : Nat} (hT : cq_T p n) {j k : Nat} : ∀ d x, x < d → x < n → cq_un p x j = true → cq_un p x k = true → cq_un p j k = true ∨ cq_un p k j = true := by
  intro d
  induction d with
  | zero =>
    intro x h
    omega
  | succ d ih =>
    intro x hd hx h1 h2
    by_cases e1 : x = j
    · subst e1
      exact Or.inl h2
    · by_cases e2 : x = k
      · subst e2
        exact Or.inr h1
      · by_cases e : x = 0
        · subst e
          rw [cq_un_00] at h1
          have : 0 = j := by simpa using h1
          omega
        · have hp := hT x (by omega) hx
          rw [cq_un_ne hT e hx e1] at h1
          rw [cq_un_ne hT e hx e2] at h2
          exact ih (p x) (by omega) (by omega) h1 h2
theorem cq_un_one {p : Nat → Nat} {n : Nat} (hT : cq_T p n) {x j k q : Nat} (hx : x < n) (hj : j ≠ 0) (hk : k ≠ 0) (hj' : j < n) (hk' : k < n) (pj : p j = q) (pk : p k = q) (h1 : cq_un p x j = true) (h2 : cq_un p x k = true) : j = k := by
  have aj := hT j (by omega) hj'
  have ak := hT k (by omega) hk'
  by_cases e : j = k
  · exact e
  · exfalso
    rcases cq_un_cmp hT (x + 1) x (by omega) hx h1 h2 with h | h
    · rw [cq_un_ne hT hj hj' e] at h
      have := cq_un_le hT (p j + 1) (p j) k (by omega) (by omega) h
      omega
    · rw [cq_un_ne hT hk hk' (fun z => e z.symm)] at h
      have := cq_un_le hT (p k + 1) (p k) j (by omega) (by omega) h
      omega
theorem cq_cnt_one {f : Nat → Bool} {n : Nat} (hu : ∀ i j, i < n → j < n → f i = true → f j = true → i = j) {s : Nat} (hs : s < n) (h : f s = true) : cq_cnt f n = 1 := by
  have e := cq_cnt_set (f := fun _ => false) (f' := fun i => f i && (i == s)) (s := s) (n := n) (fun i hi => by
    have : (i == s) = false := by simpa using hi
    show (f i && (i == s)) = false
    rw [this, Bool.and_false]) rfl hs
  have e2 : cq_cnt f n = cq_cnt (fun i => f i && (i == s)) n := cq_cnt_congr fun i hi => by
    show f i = (f i && (i == s))
    cases w : f i with
    | false => rfl
    | true =>
      have := hu i s hi hs w h
      subst this
      simp
  rw [e2, e, cq_cnt_0 (fun _ _ => rfl), h]
  simp
theorem cq_cs_add (p a b : Nat → Nat) (q : Nat) : ∀ n, cq_cs p (fun j => a j + b j) q n = cq_cs p a q n + cq_cs p b q n := by
  intro n
  induction n with
  | zero => rfl
  | succ n ih =>
    rw [cq_cs_s, cq_cs_s, cq_cs_s, ih]
    by_cases w : (!(n == 0) && (p n == q)) = true
    · simp only [if_pos w]
      omega
    · simp only [if_neg w]
      omega
theorem cq_cs_ind (p : Nat → Nat) (f : Nat → Bool) (q : Nat) : ∀ n, cq_cs p (fun j => if f j then 1 else 0) q n = cq_cnt (fun j => (!(j == 0) && (p j == q)) && f j) n := by
  intro n
  induction n with
  | zero => rfl
  | succ n ih =>
    rw [cq_cs_s, cq_cnt_s, ih]
    show cq_cnt _ n + (if (!(n == 0) && (p n == q)) then (if f n then 1 else 0) else 0) = cq_cnt _ n + (if ((!(n == 0) && (p n == q)) && f n) then 1 else 0)
    generalize (!(n == 0) && (p n == q)) = x
    generalize f n = y
    cases x <;> cases y <;> rfl
theorem cq_cs_congr {p a b : Nat → Nat} {q : Nat} : ∀ {n}, (∀ j, j ≠ 0 → j < n → p j = q → a j = b j) → cq_cs p a q n = cq_cs p b q n := by
  intro n
  induction n with
  | zero =>
    intro _
    rfl
  | succ n ih =>
    intro h
    show cq_cs p a q n + _ = cq_cs p b q n + _
    rw [ih (fun j h1 h2 h3 => h j h1 (by omega) h3)]
    by_cases w : (!(n == 0) && (p n == q)) = true
    · rw [if_pos w, if_pos w]
      simp only [Bool.and_eq_true, Bool.not_eq_true', beq_eq_false_iff_ne, beq_iff_eq] at w
      rw [h n w.1 (by omega) w.2]
    · rw [if_neg w, if_neg w]
theorem cq_cs_mono {p a b : Nat → Nat} {q : Nat} : ∀ {n}, (∀ j, j ≠ 0 → j < n → p j = q → a j ≤ b j) → cq_cs p a q n ≤ cq_cs p b q n := by
  intro n
  induction n with
  | zero =>
    intro _
    exact Nat.le_refl _
  | succ n ih =>
    intro h
    show cq_cs p a q n + _ ≤ cq_cs p b q n + _
    have := ih (fun j h1 h2 h3 => h j h1 (by omega) h3)
    by_cases w : (!(n == 0) && (p n == q)) = true
    · rw [if_pos w, if_pos w]
      simp only [Bool.and_eq_true, Bool.not_eq_true', beq_eq_false_iff_ne, beq_iff_eq] at w
      have := h n w.1 (by omega) w.2
      omega
    · rw [if_neg w, if_neg w]
      omega
theorem cq_cs_lt {p a b : Nat → Nat} {q k : Nat} : ∀ {n}, (∀ j, j ≠ 0 → j < n → p j = q → a j ≤ b j) → k ≠ 0 → k < n → p k = q → a k < b k → cq_cs p a q n < cq_cs p b q n := by
  intro n
  induction n with
  | zero =>
    intro _ _ h
    omega
  | succ n ih =>
    intro h h0 hk hp hl
    show cq_cs p a q n + _ < cq_cs p b q n + _
    by_cases e : k = n
    · subst e
      have w : (!(k == 0) && (p k == q)) = true := by simp [h0, hp]
      have := cq_cs_mono (p := p) (a := a) (b := b) (q := q) (n := k) (fun j h1 h2 h3 => h j h1 (by omega) h3)
      rw [if_pos w, if_pos w]
      omega
    · have := ih (fun j h1 h2 h3 => h j h1 (by omega) h3) h0 (by omega) hp hl
      by_cases w : (!(n == 0) && (p n == q)) = true
      · rw [if_pos w, if_pos w]
        simp only [Bool.and_eq_true, Bool.not_eq_true', beq_eq_false_iff_ne, beq_iff_eq] at w
        have := h n w.1 (by omega) w.2
        omega
      · rw [if_neg w, if_neg w]
        omega
/-- an inner queue's usage is its children's -/
theorem cq_us_in {p cl : Nat → Nat} {lv : Nat → Bool} {n q : Nat} (hT : cq_T p n) (hq : cq_cc p n q ≠ 0) (hl : ∀ i, lv i = true → cl i < n ∧ cq_cc p n (cl i) = 0) : ∀ N, cq_cnt (fun i => lv i && cq_un p (cl i) q) N = cq_cs p (fun j => cq_cnt (fun i => lv i && cq_un p (cl i) j) N) q n := by
  intro N
  induction N with
  | zero =>
    show 0 = cq_cs p (fun _ => 0) q n
    have : ∀ n, cq_cs p (fun _ => 0) q n = 0 := by
      intro n
      induction n with
      | zero => rfl
      | succ n ih =>
        show cq_cs p (fun _ => 0) q n + _ = 0
        rw [ih]
        split <;> rfl
    exact (this n).symm
  | succ N ih =>
    show cq_cnt (fun i => lv i && cq_un p (cl i) q) N + (if (lv N && cq_un p (cl N) q) then 1 else 0) = cq_cs p (fun j => cq_cnt (fun i => lv i && cq_un p (cl i) j) N + (if (lv N && cq_un p (cl N) j) then 1 else 0)) q n
    rw [cq_cs_add, ih]
    congr 1
    cases w : lv N with
    | false =>
      have := cq_cs_ind p (fun _ => false) q n
      rw [cq_cnt_0 (fun i _ => Bool.and_false _)] at this
      exact this.symm
    | true =>
      obtain ⟨h1, h2⟩ := hl N w
      have hne : cl N ≠ q := fun e => hq (e ▸ h2)
      have e := cq_cs_ind p (fun j => cq_un p (cl N) j) q n
      show (if (true && cq_un p (cl N) q) then 1 else 0) = cq_cs p (fun j => if (true && cq_un p (cl N) j) then 1 else 0) q n
      simp only [Bool.true_and]
      rw [e]
      cases v : cq_un p (cl N) q with
      | true =>
        obtain ⟨j, a, b, c, d⟩ := cq_un_ch hT (cl N + 1) (cl N) (by omega) h1 v hne
        rw [cq_cnt_one (s := j) (fun i k hi hk fi fk => ?_) b (by simp [a, c, d])]
        · rfl
        · simp only [Bool.and_eq_true, Bool.not_eq_true', beq_eq_false_iff_ne, beq_iff_eq] at fi fk
          exact cq_un_one hT h1 fi.1.1 fk.1.1 hi hk fi.1.2 fk.1.2 fi.2 fk.2
      | false =>
        rw [cq_cnt_0]
        · rfl
        · intro i hi
          cases y : ((!(i == 0) && (p i == q)) && cq_un p (cl N) i) with
          | false => rfl
          | true =>
            simp only [Bool.and_eq_true, Bool.not_eq_true', beq_eq_false_iff_ne, beq_iff_eq] at y
            have := cq_un_tr hT y.1.1 (cl N + 1) (cl N) (by omega) h1 y.2
            rw [y.1.2, v] at this
            exact absurd this (by decide)
theorem cq_un_leaf {p : Nat → Nat} {n x q : Nat} (hT : cq_T p n) (hx : x < n) (hc : cq_cc p n q = 0) : cq_un p x q = (x == q) := by
  by_cases e : x = q
  · subst e
    rw [cq_un_self]
    simp
  · have : (x == q) = false := by simpa using e
    rw [this]
    cases w : cq_un p x q with
    | false => rfl
    | true =>
      obtain ⟨j, a, b, c, _⟩ := cq_un_ch hT (x + 1) x (by omega) hx w e
      exact absurd c (cq_cc_0 hc a b)
/-- a leaf's usage is its users' -/
theorem cq_us_leaf {p cl cu : Nat → Nat} {lv : Nat → Bool} {n q : Nat} (hT : cq_T p n) (hc : cq_cc p n q = 0) (hl : ∀ i, lv i = true → cl i < n ∧ cu i < 4) : ∀ N, cq_cnt (fun i => lv i && cq_un p (cl i) q) N = cq_cnt (fun i => lv i && (cl i * 4 + cu i == q * 4 + 0)) N + cq_cnt (fun i => lv i && (cl i * 4 + cu i == q * 4 + 1)) N + cq_cnt (fun i => lv i && (cl i * 4 + cu i == q * 4 + 2)) N + cq_cnt (fun i => lv i && (cl i * 4 + cu i == q * 4 + 3)) N := by
  intro N
  induction N with
  | zero => rfl
  | succ N ih =>
    simp only [cq_cnt_s]
    rw [ih]
    cases w : lv N with
    | false => simp
    | true =>
      obtain ⟨h1, h2⟩ := hl N w
      rw [cq_un_leaf hT h1 hc]
      simp only [Bool.true_and, beq_iff_eq]
      by_cases e : cl N = q
      · subst e
        rw [if_pos rfl]
        have : cu N = 0 ∨ cu N = 1 ∨ cu N = 2 ∨ cu N = 3 := by omega
        rcases this with h | h | h | h <;> rw [h] <;> simp <;> omega
      · rw [if_neg e, if_neg (by omega), if_neg (by omega), if_neg (by omega), if_neg (by omega)]
        omega
