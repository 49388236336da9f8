/-! one pure state behind both sides -/
def cq_up (f : Nat → Nat) (i x : Nat) : Nat → Nat := fun j => if j = i then x else f j
def cq_ub (f : Nat → Bool) (i : Nat) (x : Bool) : Nat → Bool := fun j => if j = i then x else f j
theorem cq_up_s (f : Nat → Nat) (i x : Nat) : cq_up f i x i = x := if_pos rfl
theorem cq_up_n {f : Nat → Nat} {i x j : Nat} (h : j ≠ i) : cq_up f i x j = f j := if_neg h
theorem cq_ub_s (f : Nat → Bool) (i : Nat) (x : Bool) : cq_ub f i x i = x := if_pos rfl
theorem cq_ub_n {f : Nat → Bool} {i : Nat} {x : Bool} {j : Nat} (h : j ≠ i) : cq_ub f i x j = f j := if_neg h
def cq_A (f : Nat → Nat) : Nat → Int32 := fun j => nI (f j)
def cq_P (p : Nat → Nat) : Nat → Int32 := fun q => if q = 0 then (-1) else nI (p q)
def cq_V (lv : Nat → Bool) : Nat → Int32 := fun i => cq_bI (lv i)
def cq_G (lv : Nat → Bool) (id : Nat → Nat) : Nat → Int64 := fun i => if lv i then lN (id i) else 0
theorem cq_A_up (f : Nat → Nat) (i x : Nat) : upd (cq_A f) i (nI x) = cq_A (cq_up f i x) := by
  funext j
  unfold upd cq_A cq_up
  by_cases h : j = i
  · rw [if_pos h, if_pos h]
  · rw [if_neg h, if_neg h]
theorem cq_P_up (p : Nat → Nat) {i : Nat} (x : Nat) (h0 : i ≠ 0) : upd (cq_P p) i (nI x) = cq_P (cq_up p i x) := by
  funext j
  unfold upd cq_P cq_up
  by_cases h : j = i
  · rw [if_pos h, if_pos h, if_neg (by omega)]
  · rw [if_neg h, if_neg h]
theorem cq_V_up (lv : Nat → Bool) (i : Nat) (b : Bool) : upd (cq_V lv) i (cq_bI b) = cq_V (cq_ub lv i b) := by
  funext j
  unfold upd cq_V cq_ub
  by_cases h : j = i
  · rw [if_pos h, if_pos h]
  · rw [if_neg h, if_neg h]
theorem cq_G_up (lv : Nat → Bool) (id : Nat → Nat) (i x : Nat) : vp_updL (cq_G lv id) i (lN x) = cq_G (cq_ub lv i true) (cq_up id i x) := by
  funext j
  unfold vp_updL cq_G cq_ub cq_up
  by_cases h : j = i
  · rw [if_pos h, if_pos h, if_pos h]
    rfl
  · rw [if_neg h, if_neg h, if_neg h]
theorem cq_G_rm (lv : Nat → Bool) (id : Nat → Nat) (i : Nat) : vp_updL (cq_G lv id) i 0 = cq_G (cq_ub lv i false) id := by
  funext j
  unfold vp_updL cq_G cq_ub
  by_cases h : j = i
  · rw [if_pos h, if_pos h]
    rfl
  · rw [if_neg h, if_neg h]
theorem cq_P_0 (p : Nat → Nat) : cq_P p 0 = -1 := if_pos rfl
theorem cq_P_p {p : Nat → Nat} {q : Nat} (h : q ≠ 0) : cq_P p q = nI (p q) := if_neg h
theorem cq_G_t {lv : Nat → Bool} {id : Nat → Nat} {i : Nat} (h : lv i = true) : cq_G lv id i = lN (id i) := if_pos h
theorem cq_G_f {lv : Nat → Bool} {id : Nat → Nat} {i : Nat} (h : lv i = false) : cq_G lv id i = 0 := by
  unfold cq_G
  rw [h]
  rfl
theorem cq_V_t {lv : Nat → Bool} {i : Nat} (h : lv i = true) : cq_V lv i = 1 := by
  unfold cq_V
  rw [h]
  rfl
theorem cq_V_f {lv : Nat → Bool} {i : Nat} (h : lv i = false) : cq_V lv i = 0 := by
  unfold cq_V
  rw [h]
  rfl
/-- what stays while units are shared out -/
def cq_J (c l n : Nat) (p g m : Nat → Nat) : Prop := (1 ≤ c ∧ c ≤ 64 ∧ l ≤ 64 ∧ 1 ≤ n ∧ n ≤ 16) ∧ cq_T p n ∧ (∀ q, g q ≤ 64) ∧ (∀ q, m q ≤ 64) ∧ m 0 = c
/-- what changes then: the next id, requests, the slots' leaves, users, ids, and which slots live -/
abbrev cq_Z : Type := Nat × (Nat → Nat) × (Nat → Nat) × (Nat → Nat) × (Nat → Nat) × (Nat → Bool)
abbrev cq_t (z : cq_Z) : Nat := z.1
abbrev cq_r (z : cq_Z) : Nat → Nat := z.2.1
abbrev cq_cl (z : cq_Z) : Nat → Nat := z.2.2.1
abbrev cq_cu (z : cq_Z) : Nat → Nat := z.2.2.2.1
abbrev cq_id (z : cq_Z) : Nat → Nat := z.2.2.2.2.1
abbrev cq_lv (z : cq_Z) : Nat → Bool := z.2.2.2.2.2
def cq_D (T B n : Nat) (p : Nat → Nat) (z : cq_Z) : Prop := (1 ≤ cq_t z ∧ cq_t z ≤ T) ∧ (∀ j, cq_r z j ≤ B) ∧ (∀ j, 4 * n ≤ j → cq_r z j = 0) ∧ (∀ i, cq_lv z i = true → cq_cl z i < n ∧ cq_cu z i < 4 ∧ 1 ≤ cq_id z i ∧ cq_id z i < cq_t z ∧ cq_cc p n (cq_cl z i) = 0)
theorem cq_D_up {T T' B B' n : Nat} {p : Nat → Nat} {z : cq_Z} (h : cq_D T B n p z) (hT : T ≤ T') (hB : B ≤ B') : cq_D T' B' n p z :=
  ⟨⟨h.1.1, Nat.le_trans h.1.2 hT⟩, fun j => Nat.le_trans (h.2.1 j) hB, h.2.2.1, h.2.2.2⟩
def cq_put (z : cq_Z) (x y s : Nat) : cq_Z := (cq_t z + 1, cq_up (cq_r z) (x * 4 + y) (cq_r z (x * 4 + y) - 1), cq_up (cq_cl z) s x, cq_up (cq_cu z) s y, cq_up (cq_id z) s (cq_t z), cq_ub (cq_lv z) s true)
def cq_del (z : cq_Z) (s : Nat) : cq_Z := (cq_t z, cq_r z, cq_cl z, cq_cu z, cq_id z, cq_ub (cq_lv z) s false)
def cq_sr (z : cq_Z) (j x : Nat) : cq_Z := (cq_t z, cq_up (cq_r z) j x, cq_cl z, cq_cu z, cq_id z, cq_lv z)
def cq_rq (z : cq_Z) (v : Nat) : cq_Z := cq_sr (cq_del z v) (cq_cl z v * 4 + cq_cu z v) (cq_r z (cq_cl z v * 4 + cq_cu z v) + 1)
theorem cq_D_put {T B n : Nat} {p : Nat → Nat} {z : cq_Z} (h : cq_D T B n p z) {x y s : Nat} (hx : x < n) (hy : y < 4) (hc : cq_cc p n x = 0) : cq_D (T + 1) B n p (cq_put z x y s) := by
  obtain ⟨⟨h1, h2⟩, h3, h4, h5⟩ := h
  refine ⟨⟨show 1 ≤ cq_t z + 1 by omega, show cq_t z + 1 ≤ T + 1 by omega⟩, fun j => ?_, fun j hj => ?_, fun i hi => ?_⟩
  · show cq_up (cq_r z) (x * 4 + y) (cq_r z (x * 4 + y) - 1) j ≤ B
    unfold cq_up
    have a := h3 j
    have b := h3 (x * 4 + y)
    split <;> omega
  · show cq_up (cq_r z) (x * 4 + y) (cq_r z (x * 4 + y) - 1) j = 0
    rw [cq_up_n (by omega)]
    exact h4 j hj
  · have hi' : cq_ub (cq_lv z) s true i = true := hi
    show cq_up (cq_cl z) s x i < n ∧ cq_up (cq_cu z) s y i < 4 ∧ 1 ≤ cq_up (cq_id z) s (cq_t z) i ∧ cq_up (cq_id z) s (cq_t z) i < cq_t z + 1 ∧ cq_cc p n (cq_up (cq_cl z) s x i) = 0
    by_cases e : i = s
    · subst e
      rw [cq_up_s, cq_up_s, cq_up_s]
      exact ⟨hx, hy, h1, by omega, hc⟩
    · rw [cq_ub_n e] at hi'
      rw [cq_up_n e, cq_up_n e, cq_up_n e]
      obtain ⟨a, b, c, d, f⟩ := h5 i hi'
      exact ⟨a, b, c, by omega, f⟩
theorem cq_D_del {T B n : Nat} {p : Nat → Nat} {z : cq_Z} (h : cq_D T B n p z) (s : Nat) : cq_D T B n p (cq_del z s) := by
  obtain ⟨h1, h3, h4, h5⟩ := h
  refine ⟨h1, h3, h4, fun i hi => ?_⟩
  have hi' : cq_ub (cq_lv z) s false i = true := hi
  by_cases e : i = s
  · subst e
    rw [cq_ub_s] at hi'
    exact absurd hi' (by decide)
  · rw [cq_ub_n e] at hi'
    exact h5 i hi'
theorem cq_D_sr {T B B' n : Nat} {p : Nat → Nat} {z : cq_Z} (h : cq_D T B n p z) {j x : Nat} (hj : j < 4 * n) (hB : B ≤ B') (hx : x ≤ B') : cq_D T B' n p (cq_sr z j x) := by
  obtain ⟨h1, h3, h4, h5⟩ := h
  refine ⟨h1, fun i => ?_, fun i hi => ?_, h5⟩
  · show cq_up (cq_r z) j x i ≤ B'
    unfold cq_up
    have a := h3 i
    split <;> omega
  · show cq_up (cq_r z) j x i = 0
    rw [cq_up_n (by omega)]
    exact h4 i hi
/-! how the counts move -/
theorem cq_us_grant {p cl : Nat → Nat} {lv : Nat → Bool} {s : Nat} (x : Nat) (hs : s < 64) (hl : lv s = false) (q : Nat) : cq_us p (cq_up cl s x) (cq_ub lv s true) q = cq_us p cl lv q + (if cq_un p x q then 1 else 0) := by
  unfold cq_us
  rw [cq_cnt_set (f := fun i => lv i && cq_un p (cl i) q) (s := s) (fun i hi => by
    show (cq_ub lv s true i && cq_un p (cq_up cl s x i) q) = _
    rw [cq_ub_n hi, cq_up_n hi]) (by
    show (lv s && _) = false
    rw [hl]
    rfl) hs]
  rw [cq_ub_s, cq_up_s, Bool.true_and]
theorem cq_hs_grant {cl cu : Nat → Nat} {lv : Nat → Bool} {s : Nat} (x y : Nat) (hs : s < 64) (hl : lv s = false) (j : Nat) : cq_hs (cq_up cl s x) (cq_up cu s y) (cq_ub lv s true) j = cq_hs cl cu lv j + (if x * 4 + y == j then 1 else 0) := by
  unfold cq_hs
  rw [cq_cnt_set (f := fun i => lv i && (cl i * 4 + cu i == j)) (s := s) (fun i hi => by
    show (cq_ub lv s true i && (cq_up cl s x i * 4 + cq_up cu s y i == j)) = _
    rw [cq_ub_n hi, cq_up_n hi, cq_up_n hi]) (by
    show (lv s && _) = false
    rw [hl]
    rfl) hs]
  rw [cq_ub_s, cq_up_s, cq_up_s, Bool.true_and]
theorem cq_us_rm {p cl : Nat → Nat} {lv : Nat → Bool} {s : Nat} (hs : s < 64) (hl : lv s = true) (q : Nat) : cq_us p cl lv q = cq_us p cl (cq_ub lv s false) q + (if cq_un p (cl s) q then 1 else 0) := by
  unfold cq_us
  rw [cq_cnt_set (f := fun i => cq_ub lv s false i && cq_un p (cl i) q) (f' := fun i => lv i && cq_un p (cl i) q) (s := s) (fun i hi => by
    show _ = (cq_ub lv s false i && cq_un p (cl i) q)
    rw [cq_ub_n hi]) (by
    show (cq_ub lv s false s && _) = false
    rw [cq_ub_s]
    rfl) hs]
  rw [hl, Bool.true_and]
theorem cq_hs_rm {cl cu : Nat → Nat} {lv : Nat → Bool} {s : Nat} (hs : s < 64) (hl : lv s = true) (j : Nat) : cq_hs cl cu lv j = cq_hs cl cu (cq_ub lv s false) j + (if cl s * 4 + cu s == j then 1 else 0) := by
  unfold cq_hs
  rw [cq_cnt_set (f := fun i => cq_ub lv s false i && (cl i * 4 + cu i == j)) (f' := fun i => lv i && (cl i * 4 + cu i == j)) (s := s) (fun i hi => by
    show _ = (cq_ub lv s false i && (cl i * 4 + cu i == j))
    rw [cq_ub_n hi]) (by
    show (cq_ub lv s false s && _) = false
    rw [cq_ub_s]
    rfl) hs]
  rw [hl, Bool.true_and]
theorem cq_us_new {p cl : Nat → Nat} {lv : Nat → Bool} {n x : Nat} (hT : cq_T p n) (h : ∀ i, lv i = true → cl i < n) (q : Nat) : cq_us (cq_up p n x) cl lv q = cq_us p cl lv q := by
  unfold cq_us
  refine cq_cnt_congr fun i _ => ?_
  cases hl : lv i with
  | false => rfl
  | true => rw [cq_un_congr hT (fun j hj => cq_up_n (by omega)) (h i hl)]
theorem cq_cc_new {p : Nat → Nat} {n x q : Nat} (h1 : 1 ≤ n) : cq_cc (cq_up p n x) (n + 1) q = cq_cc p n q + (if x == q then 1 else 0) := by
  unfold cq_cc
  rw [cq_cnt_s, cq_cnt_congr (f := fun j => !(j == 0) && (p j == q)) (fun j hj => by
    show (!(j == 0) && (cq_up p n x j == q)) = _
    rw [cq_up_n (by omega)])]
  have e : (n == 0) = false := by simp; omega
  rw [cq_up_s, e, Bool.not_false, Bool.true_and]
/-- all live containers lie under the root -/
theorem cq_us_rt {p cl : Nat → Nat} {lv : Nat → Bool} {n : Nat} (hT : cq_T p n) (h : ∀ i, lv i = true → cl i < n) (hu : cq_us p cl lv 0 < 64) : ∃ i, i < 64 ∧ lv i = false := by
  obtain ⟨i, hi, e⟩ := cq_cnt_room hu
  refine ⟨i, hi, ?_⟩
  cases hl : lv i with
  | false => rfl
  | true =>
    have e' : (lv i && cq_un p (cl i) 0) = false := e
    rw [hl, cq_un_rt hT (cl i + 1) (cl i) (by omega) (h i hl)] at e'
    exact absurd e' (by decide)
theorem cq_us_16 {p cl : Nat → Nat} {lv : Nat → Bool} {n q : Nat} (hT : cq_T p n) (h : ∀ i, lv i = true → cl i < n) (hq : n ≤ q) : cq_us p cl lv q = 0 := by
  refine cq_cnt_0 fun i _ => ?_
  cases hl : lv i with
  | false => rfl
  | true =>
    have := h i hl
    rw [cq_un_gt hT this (by omega)]
    rfl
