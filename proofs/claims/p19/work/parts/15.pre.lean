/-! what more holds of the class alone -/
theorem cq_un_trans {p : Nat → Nat} {n : Nat} (hT : cq_T p n) {b a : Nat} (h2 : cq_un p b a = true) : ∀ d x, x < d → x < n → cq_un p x b = true → cq_un p x a = true := by
  intro d
  induction d with
  | zero =>
    intro x h
    omega
  | succ d ih =>
    intro x hd hx h1
    by_cases e1 : x = b
    · subst e1
      exact h2
    · by_cases e : x = 0
      · subst e
        rw [cq_un_00] at h1
        have : 0 = b := by simpa using h1
        omega
      · have hp := hT x (by omega) hx
        rw [cq_un_ne hT e hx e1] at h1
        rw [cq_un_p hT e hx, ih (p x) (by omega) (by omega) h1]
        simp
/-- the static part: maxima above guarantees, the root's, the children's sums -/
def cq_KK (c n : Nat) (p g m : Nat → Nat) : Prop := (∀ q, q < n → g q ≤ m q) ∧ g 0 = c ∧ (∀ q, q < n → cq_cs p g q n ≤ g q)
/-- the moving part: no queue above its maximum, live slots below 64, their ids differ -/
def cq_L (n : Nat) (p m : Nat → Nat) (z : cq_Z) : Prop := (∀ q, q < n → cq_u p z q ≤ m q) ∧ (∀ i, cq_lv z i = true → i < 64) ∧ (∀ i j, cq_lv z i = true → cq_lv z j = true → cq_id z i = cq_id z j → i = j)
theorem cq_L_put {T B n : Nat} {p m : Nat → Nat} {z : cq_Z} (hD : cq_D T B n p z) (h : cq_L n p m z) {x y s : Nat} (hs : s < 64) (hl : cq_lv z s = false) (hr : ∀ q, q < n → cq_un p x q = true → cq_u p z q < m q) : cq_L n p m (cq_put z x y s) := by
  obtain ⟨h1, h2, h3⟩ := h
  refine ⟨fun q hq => ?_, fun i hi => ?_, fun i j hi hj e => ?_⟩
  · rw [cq_u_put p x y hs hl]
    have := h1 q hq
    by_cases w : cq_un p x q = true
    · have := hr q hq w
      rw [if_pos w]
      omega
    · rw [if_neg w]
      omega
  · have hi' : cq_ub (cq_lv z) s true i = true := hi
    by_cases w : i = s
    · omega
    · rw [cq_ub_n w] at hi'
      exact h2 i hi'
  · have hi' : cq_ub (cq_lv z) s true i = true := hi
    have hj' : cq_ub (cq_lv z) s true j = true := hj
    have e' : cq_up (cq_id z) s (cq_t z) i = cq_up (cq_id z) s (cq_t z) j := e
    by_cases w : i = s
    · by_cases w' : j = s
      · omega
      · subst w
        rw [cq_up_s, cq_up_n w'] at e'
        rw [cq_ub_n w'] at hj'
        have := (hD.2.2.2 j hj').2.2.2.1
        omega
    · by_cases w' : j = s
      · subst w'
        rw [cq_up_s, cq_up_n w] at e'
        rw [cq_ub_n w] at hi'
        have := (hD.2.2.2 i hi').2.2.2.1
        omega
      · rw [cq_up_n w, cq_up_n w'] at e'
        rw [cq_ub_n w] at hi'
        rw [cq_ub_n w'] at hj'
        exact h3 i j hi' hj' e'
theorem cq_u_rq {p : Nat → Nat} {z : cq_Z} {v : Nat} (hv : v < 64) (hl : cq_lv z v = true) (q : Nat) : cq_u p z q = cq_u p (cq_rq z v) q + (if cq_un p (cq_cl z v) q then 1 else 0) := cq_us_rm hv hl q
theorem cq_h_rq {z : cq_Z} {v : Nat} (hv : v < 64) (hl : cq_lv z v = true) (j : Nat) : cq_h z j = cq_h (cq_rq z v) j + (if cq_cl z v * 4 + cq_cu z v == j then 1 else 0) := cq_hs_rm hv hl j
theorem cq_L_rq {n : Nat} {p m : Nat → Nat} {z : cq_Z} (h : cq_L n p m z) {v : Nat} (hv : v < 64) (hl : cq_lv z v = true) : cq_L n p m (cq_rq z v) := by
  obtain ⟨h1, h2, h3⟩ := h
  have key : ∀ i, cq_lv (cq_rq z v) i = true → cq_lv z i = true := by
    intro i hi
    have hi' : cq_ub (cq_lv z) v false i = true := hi
    by_cases w : i = v
    · subst w
      exact hl
    · rw [cq_ub_n w] at hi'
      exact hi'
  refine ⟨fun q hq => ?_, fun i hi => h2 i (key i hi), fun i j hi hj e => h3 i j (key i hi) (key j hj) e⟩
  have := h1 q hq
  have := cq_u_rq (p := p) hv hl q
  omega
theorem cq_E_congr {r r' h h' : Nat → Nat} {l x : Nat} : ∀ {k}, (∀ j, j < k → r' (x * 4 + j) = r (x * 4 + j) ∧ h' (x * 4 + j) = h (x * 4 + j)) → cq_E r' h' l x k = cq_E r h l x k := by
  intro k
  induction k with
  | zero =>
    intro _
    rfl
  | succ k ih =>
    intro hh
    show cq_E r' h' l x k + _ = cq_E r h l x k + _
    rw [ih (fun j hj => hh j (by omega)), (hh k (by omega)).1, (hh k (by omega)).2]
theorem cq_e_rq {l : Nat} {z : cq_Z} {v x : Nat} (hv : v < 64) (hl : cq_lv z v = true) (hu : cq_cu z v < 4) (hx : x ≠ cq_cl z v) : cq_e l (cq_rq z v) x = cq_e l z x := by
  refine cq_E_congr fun j hj => ⟨?_, ?_⟩
  · show cq_up (cq_r z) (cq_cl z v * 4 + cq_cu z v) _ (x * 4 + j) = _
    rw [cq_up_n (by omega)]
  · have := cq_h_rq hv hl (x * 4 + j)
    rw [if_neg (by simp; omega)] at this
    omega
theorem cq_e_put {l : Nat} {z : cq_Z} {x y s w : Nat} (hs : s < 64) (hl : cq_lv z s = false) (hy : y < 4) (hx : w ≠ x) : cq_e l (cq_put z x y s) w = cq_e l z w := by
  refine cq_E_congr fun j hj => ⟨?_, ?_⟩
  · show cq_up (cq_r z) (x * 4 + y) _ (w * 4 + j) = _
    rw [cq_up_n (by omega)]
  · have := cq_h_put x y hs hl (w * 4 + j)
    rw [if_neg (by simp; omega)] at this
    exact this
/-- the fill keeps it, and ends with the root closed -/
theorem cq_nx_L {T B c l n : Nat} {p g m : Nat → Nat} {z : cq_Z} (hJ : cq_J c l n p g m) (hD : cq_D T B n p z) (h : cq_L n p m z) (ho : cq_on l n p m z 0 = true) : cq_L n p m (cq_nx l n p g m z) ∧ cq_t (cq_nx l n p g m z) = cq_t z + 1 := by
  obtain ⟨hb, _⟩ := cq_nx_ok hJ hD ho
  obtain ⟨⟨h1, h2, h3, h4, h5⟩, hT, hg, hm, h0⟩ := hJ
  obtain ⟨a, b⟩ := cq_lf_ok (g := g) hT 16 0 (by omega) (by omega) ho
  obtain ⟨y, s, hy, hs, eq⟩ := cq_gr_yes hb
  obtain ⟨s1, s2⟩ := cq_sl_lt hs
  unfold cq_nx
  rw [eq]
  exact ⟨cq_L_put hD h s1 s2 (fun q hq w => cq_le_room (l := l) hT _ _ (Nat.lt_succ_self _) a (cq_el_cc b).2.2 q w), rfl⟩
theorem cq_fz_L {B c l n : Nat} {p g m : Nat → Nat} (hJ : cq_J c l n p g m) : ∀ d T z, cq_D T B n p z → cq_L n p m z → cq_L n p m (cq_fz l n p g m d z) ∧ cq_t (cq_fz l n p g m d z) = cq_t z + cq_fn l n p g m d z ∧ cq_u p (cq_fz l n p g m d z) 0 = cq_u p z 0 + cq_fn l n p g m d z := by
  intro d
  induction d with
  | zero =>
    intro T z _ h
    exact ⟨h, rfl, rfl⟩
  | succ d ih =>
    intro T z hD h
    unfold cq_fz cq_fn
    by_cases ho : cq_on l n p m z 0 = true
    · rw [if_pos ho, if_pos ho]
      obtain ⟨a, b⟩ := cq_nx_L hJ hD h ho
      obtain ⟨_, b'⟩ := cq_nx_ok hJ hD ho
      obtain ⟨e1, e2, e3⟩ := ih (T + 1) _ (cq_nx_D hJ.2.1 hJ.1.2.2.2.1 hJ.1.2.2.2.2 hD ho) a
      refine ⟨e1, ?_, ?_⟩
      · rw [e2, b]
        omega
      · rw [e3, b']
        omega
    · rw [if_neg ho, if_neg ho]
      exact ⟨h, rfl, rfl⟩
theorem cq_fz_off {B c l n : Nat} {p g m : Nat → Nat} (hJ : cq_J c l n p g m) : ∀ d T z, cq_D T B n p z → c ≤ cq_u p z 0 + d → cq_on l n p m (cq_fz l n p g m d z) 0 = false := by
  intro d
  induction d with
  | zero =>
    intro T z _ h
    cases ho : cq_on l n p m z 0 with
    | false => exact ho
    | true =>
      have := cq_on_0 hJ.2.1 ho
      have := hJ.2.2.2.2
      omega
  | succ d ih =>
    intro T z hD h
    unfold cq_fz
    by_cases ho : cq_on l n p m z 0 = true
    · rw [if_pos ho]
      obtain ⟨_, b'⟩ := cq_nx_ok hJ hD ho
      exact ih (T + 1) _ (cq_nx_D hJ.2.1 hJ.1.2.2.2.1 hJ.1.2.2.2.2 hD ho) (by omega)
    · rw [if_neg ho]
      simpa using ho
/-- who wants units is held by a full queue -/
def cq_N (l n : Nat) (p m : Nat → Nat) (z : cq_Z) : Prop := ∀ x, x < n → cq_cc p n x = 0 → 0 < cq_e l z x → ∃ a, cq_un p x a = true ∧ cq_u p z a = m a
theorem cq_ex_iff {p : Nat → Nat} {n : Nat} (hT : cq_T p n) {s : Nat → Bool} : ∀ d x, x < d → x < n → cq_ex p s x = true → ∃ a, cq_un p x a = true ∧ s a = true := by
  intro d
  induction d with
  | zero =>
    intro x h
    omega
  | succ d ih =>
    intro x hd hx h
    by_cases w : s x = true
    · exact ⟨x, cq_un_self p x, w⟩
    · by_cases e : x = 0
      · subst e
        rw [cq_ex_0] at h
        exact absurd h w
      · have hp := hT x (by omega) hx
        rw [cq_ex_p hT s e hx] at h
        have w' : s x = false := by simpa using w
        rw [w', Bool.false_or] at h
        obtain ⟨a, h1, h2⟩ := ih (p x) (by omega) (by omega) h
        refine ⟨a, ?_, h2⟩
        rw [cq_un_p hT e hx, h1]
        simp
theorem cq_N_0 {l n : Nat} {p m : Nat → Nat} {z : cq_Z} (hT : cq_T p n) (hL : cq_L n p m z) (h0 : cq_on l n p m z 0 = false) : cq_N l n p m z := by
  intro x hx hc he
  have hr : cq_rm p m (cq_u p z) x = false := by
    cases w : cq_rm p m (cq_u p z) x with
    | false => rfl
    | true =>
      have : cq_on l n p m z 0 = true := cq_any_iff.mpr ⟨x, hx, by
        rw [cq_un_rt hT (x + 1) x (by omega) hx, Bool.true_and]
        unfold cq_el
        rw [w]
        have he' : 0 < cq_E (cq_r z) (cq_h z) l x 4 := he
        simp [hc, he']⟩
      rw [h0] at this
      exact absurd this (by decide)
  unfold cq_rm at hr
  have hr' : cq_ex p (fun y => decide (m y ≤ cq_u p z y)) x = true := by simpa using hr
  obtain ⟨a, h1, h2⟩ := cq_ex_iff hT (x + 1) x (by omega) hx hr'
  have ha := cq_un_le hT (x + 1) x a (by omega) hx h1
  have := hL.1 a (by omega)
  have h2' : m a ≤ cq_u p z a := by simpa using h2
  exact ⟨a, h1, by omega⟩
/-- what the search for a full ancestor finds -/
theorem cq_fa_some {n : Nat} {p m : Nat → Nat} {z : cq_Z} (hT : cq_T p n) : ∀ f x a, x < n → cq_fa p m z f x = some a → cq_un p x a = true ∧ cq_u p z a = m a ∧ ∀ q, cq_un p x q = true → cq_u p z q = m q → cq_un p a q = true := by
  intro f
  induction f with
  | zero =>
    intro x a _ h
    exact absurd h (by simp [cq_fa])
  | succ f ih =>
    intro x a hx h
    unfold cq_fa at h
    by_cases e : cq_u p z x = m x
    · rw [if_pos e] at h
      cases h
      exact ⟨cq_un_self p x, e, fun q hq _ => hq⟩
    · rw [if_neg e] at h
      by_cases e0 : x = 0
      · rw [if_pos e0] at h
        exact absurd h (by simp)
      · rw [if_neg e0] at h
        have hp := hT x (by omega) hx
        obtain ⟨h1, h2, h3⟩ := ih (p x) a (by omega) h
        refine ⟨?_, h2, fun q hq hf => ?_⟩
        · rw [cq_un_p hT e0 hx, h1]
          simp
        · by_cases w : x = q
          · subst w
            exact absurd hf e
          · rw [cq_un_ne hT e0 hx w] at hq
            exact h3 q hq hf
theorem cq_fa_ex {n : Nat} {p m : Nat → Nat} {z : cq_Z} (hT : cq_T p n) : ∀ f x q, x < f → x < n → cq_un p x q = true → cq_u p z q = m q → ∃ a, cq_fa p m z f x = some a := by
  intro f
  induction f with
  | zero =>
    intro x q h
    omega
  | succ f ih =>
    intro x q hf hx hq hm
    unfold cq_fa
    by_cases e : cq_u p z x = m x
    · exact ⟨x, if_pos e⟩
    · rw [if_neg e]
      have w : x ≠ q := fun w => e (w ▸ hm)
      by_cases e0 : x = 0
      · subst e0
        rw [cq_un_00] at hq
        exact absurd (by simpa using hq) w
      · rw [if_neg e0]
        have hp := hT x (by omega) hx
        rw [cq_un_ne hT e0 hx w] at hq
        exact ih (p x) q (by omega) (by omega) hq hm
/-- if no leaf under q is above its guarantee, q isn't; and if one is below, q is -/
theorem cq_low {n : Nat} {p g m : Nat → Nat} {c : Nat} {z : cq_Z} {T B : Nat} (hT : cq_T p n) (hK : cq_KK c n p g m) (hD : cq_D T B n p z) : ∀ d q, n ≤ q + d → q < n → (∀ w, w < n → cq_cc p n w = 0 → cq_un p w q = true → cq_u p z w ≤ g w) → cq_u p z q ≤ g q ∧ ((∃ s, s < n ∧ cq_cc p n s = 0 ∧ cq_un p s q = true ∧ cq_u p z s < g s) → cq_u p z q < g q) := by
  intro d
  induction d with
  | zero =>
    intro q h1 h2
    omega
  | succ d ih =>
    intro q h1 h2 hw
    by_cases hc : cq_cc p n q = 0
    · refine ⟨hw q h2 hc (cq_un_self p q), ?_⟩
      rintro ⟨s, s1, s2, s3, s4⟩
      rw [cq_un_leaf hT s1 hc] at s3
      have : s = q := by simpa using s3
      subst this
      exact s4
    · have eu : cq_u p z q = cq_cs p (cq_u p z) q n := cq_us_in hT hc (fun i hi => ⟨(hD.2.2.2 i hi).1, (hD.2.2.2 i hi).2.2.2.2⟩) 64
      have hs := hK.2.2 q h2
      have hch : ∀ j, j ≠ 0 → j < n → p j = q → cq_u p z j ≤ g j ∧ ((∃ s, s < n ∧ cq_cc p n s = 0 ∧ cq_un p s j = true ∧ cq_u p z s < g s) → cq_u p z j < g j) := by
        intro j j0 j1 j2
        have := hT j (by omega) j1
        refine ih j (by omega) j1 fun w w1 w2 w3 => hw w w1 w2 ?_
        have := cq_un_tr hT j0 (w + 1) w (by omega) w1 w3
        rw [j2] at this
        exact this
      refine ⟨?_, ?_⟩
      · have := cq_cs_mono (p := p) (a := cq_u p z) (b := g) (q := q) (n := n) (fun j a b c => (hch j a b c).1)
        omega
      · rintro ⟨s, s1, s2, s3, s4⟩
        have hne : s ≠ q := fun e => hc (e ▸ s2)
        obtain ⟨j, a, b, c, e⟩ := cq_un_ch hT (s + 1) s (by omega) s1 s3 hne
        have := cq_cs_lt (p := p) (a := cq_u p z) (b := g) (q := q) (k := j) (n := n) (fun j a b c => (hch j a b c).1) a b c ((hch j a b c).2 ⟨s, s1, s2, e, s4⟩)
        omega
/-- a starved leaf finds its ancestor and its victim -/
theorem cq_rd_ex {T B c l n : Nat} {p g m : Nat → Nat} {z : cq_Z} (hJ : cq_J c l n p g m) (hK : cq_KK c n p g m) (hD : cq_D T B n p z) (hL : cq_L n p m z) (hN : cq_N l n p m z) {s : Nat} (hs : cq_sv l n p g z = some s) : ∃ z', cq_rd l n p g m z = some z' := by
  obtain ⟨⟨h1, h2, h3, h4, h5⟩, hT, hg, hm, h0⟩ := hJ
  obtain ⟨s1, s2, s3, s4⟩ := cq_sv_ok hs
  obtain ⟨a, ha, hf⟩ := hN s s1 s2 s4
  have hgm := hK.1 s s1
  have hne : s ≠ a := by
    intro e
    subst e
    omega
  have hs0 : s ≠ 0 := by
    intro e
    subst e
    rw [cq_un_00] at ha
    exact hne (by simpa using ha)
  have hp := hT s (by omega) s1
  rw [cq_un_ne hT hs0 s1 hne] at ha
  obtain ⟨b, hb⟩ := cq_fa_ex (m := m) (z := z) hT 16 (p s) a (by omega) (by omega) ha hf
  obtain ⟨b1, b2, _⟩ := cq_fa_some hT 16 (p s) b (by omega) hb
  have hbn := cq_un_le hT (p s + 1) (p s) b (by omega) (by omega) b1
  have b3 : cq_un p s b = true := by
    rw [cq_un_p hT hs0 s1, b1]
    simp
  have ef : cq_fs p m z s = some b := by
    unfold cq_fs
    rw [if_neg hs0]
    exact hb
  cases ev : cq_vi p g z b s 64 with
  | some v =>
    refine ⟨cq_gr l s (cq_rq z v), ?_⟩
    unfold cq_rd
    rw [hs]
    dsimp only
    rw [ef]
    dsimp only
    rw [ev]
  | none =>
    exfalso
    have hno := cq_fo_none ev
    have hall : ∀ w, w < n → cq_cc p n w = 0 → cq_un p w b = true → cq_u p z w ≤ g w := by
      intro w w1 w2 w3
      by_cases e : w = s
      · subst e
        omega
      · apply Nat.le_of_not_lt
        intro hgt
        obtain ⟨i, i1, i2⟩ := cq_cnt_ex (f := fun i => cq_lv z i && cq_un p (cq_cl z i) w) (n := 64) (show 0 < cq_u p z w by omega)
        rw [Bool.and_eq_true] at i2
        have hc := (hD.2.2.2 i i2.1).1
        rw [cq_un_leaf hT hc w2] at i2
        have ec : cq_cl z i = w := by simpa using i2.2
        have := hno i i1
        unfold cq_bw at this
        rw [i2.1, ec, w3] at this
        simp [e] at this
        omega
    have := (cq_low hT hK hD n b (by omega) (by omega) hall).2 ⟨s, s1, s2, b3, s3⟩
    have := hK.1 b (by omega)
    omega
