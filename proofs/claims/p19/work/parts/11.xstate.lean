/-! the class: paths, open marks, grant, fill -/
def cq_Pk (l n : Nat) (p m : Nat → Nat) (z : cq_Z) (k j : Nat) : Prop := ∃ i, k ≤ i ∧ i < n ∧ i ≠ 0 ∧ p i = j ∧ cq_on l n p m z i = true
def cq_Iv (l n : Nat) (p m : Nat → Nat) (z : cq_Z) (k : Nat) (op : Nat → Int32) : Prop := (∀ j, j < k → ∃ b : Bool, op j = cq_bI b ∧ (b = true ↔ cq_Pk l n p m z k j)) ∧ (∀ j, k ≤ j → j < n → op j = cq_bI (cq_on l n p m z j))
theorem cq_m1s (k : Nat) : nI k + (-1) = nI k - 1 := by
  cases k with
  | zero => rfl
  | succ k => rw [pk_m1, nI_pred]
section
variable {c l n : Nat} {p g m : Nat → Nat} {z : cq_Z} {op : Nat → Int32} {post : St2 → Prop} {A B : Prop} {T' B' : Nat}
theorem cq_x_path {fu fl fq : Int32} {ft : Int64} {cc gu mx rq he : Nat → Int32} {si : Nat → Int64} {sl su oq : Nat → Int32} (hT : cq_T p n) (hn : n ≤ 16) (ch : Int32) : ∀ d x i f (us : Nat → Int32), x < d → x < n → x + i ≤ 15 → d < f → post (fu, fl, fq, ft, cq_P p, cc, gu, mx, (fun q => if cq_un p x q then us q + ch else us q), rq, he, si, sl, su, oq) → wX_addToPath_5 post ch fu fl fq ft f (nI x) (nI i) (cq_P p) cc gu mx us rq he si sl su oq := by
  intro d
  induction d with
  | zero =>
    intro x i f us h
    omega
  | succ d ih =>
    intro x i f us hd hx hi hf hp
    obtain ⟨f, rfl⟩ : ∃ k, f = k + 1 := ⟨f - 1, by omega⟩
    have ix : vp_in (nI x) 16 := vp_in_nI (by omega) (by omega)
    refine pk_le 16 i (fun h => by omega) (fun _ => br_f (cq_m1 (by omega)) ⟨ix, ix, nm_r (e' := upd us x (us x + ch)) (by rw [nI_clamp (by omega)]) ⟨ix, ?_⟩⟩)
    by_cases h0 : x = 0
    · subst h0
      refine nm_r (cq_rP0 p) (nm_r (nI_1 i) ?_)
      obtain ⟨f, rfl⟩ : ∃ k, f = k + 1 := ⟨f - 1, by omega⟩
      have e : upd us 0 (us 0 + ch) = fun q => if cq_un p 0 q then us q + ch else us q := by
        funext q
        rw [cq_un_00]
        unfold upd
        by_cases w : q = 0
        · subst w
          rw [if_pos rfl, if_pos (by rfl)]
        · rw [if_neg w, if_neg (by simp; omega)]
      rw [← e] at hp
      exact pk_le 16 (i + 1) (fun _ => hp) (fun _ => br_t rfl hp)
    · have hpx := hT x (by omega) hx
      refine nm_r (cq_rPp p h0 (by omega)) (nm_r (nI_1 i) (ih (p x) (i + 1) f _ (by omega) (by omega) (by omega) (by omega) ?_))
      have e : (fun q => if cq_un p (p x) q then upd us x (us x + ch) q + ch else upd us x (us x + ch) q) = fun q => if cq_un p x q then us q + ch else us q := by
        funext q
        unfold upd
        by_cases w : q = x
        · subst w
          rw [cq_un_self, cq_un_gt hT (by omega) hpx, if_pos rfl, if_neg (by decide), if_pos rfl]
        · rw [cq_un_ne hT h0 hx (fun e => w e.symm), if_neg w]
      rw [e]
      exact hp
theorem cq_x_addToPath {fu fl fq : Int32} {ft : Int64} {cc gu mx us rq he : Nat → Int32} {si : Nat → Int64} {sl su oq : Nat → Int32} (hT : cq_T p n) (hn : n ≤ 16) {ch : Int32} {x : Nat} (hx : x < n) (hp : post (fu, fl, fq, ft, cq_P p, cc, gu, mx, (fun q => if cq_un p x q then us q + ch else us q), rq, he, si, sl, su, oq)) : wpX_addToPath post (fu, fl, fq, ft, cq_P p, cc, gu, mx, us, rq, he, si, sl, su, oq) (nI x) ch :=
  Exists.intro (x + 2) (cq_x_path hT hn ch (x + 1) x 0 (x + 2) us (by omega) hx (by omega) (by omega) hp)
theorem cq_u_del {z : cq_Z} {v : Nat} (p : Nat → Nat) (hv : v < 64) (hl : cq_lv z v = true) (q : Nat) : cq_u p z q = cq_u p (cq_del z v) q + (if cq_un p (cq_cl z v) q then 1 else 0) := cq_us_rm hv hl q
theorem cq_h_del {z : cq_Z} {v : Nat} (hv : v < 64) (hl : cq_lv z v = true) (j : Nat) : cq_h z j = cq_h (cq_del z v) j + (if cq_cl z v * 4 + cq_cu z v == j then 1 else 0) := cq_hs_rm hv hl j
theorem cq_x_remove (hT : cq_T p n) (hn : n ≤ 16) (hD : cq_D T' B' n p z) {s : Nat} (hs : s < 64) (hl : cq_lv z s = true) (hp : post (cq_X c l n p g m (cq_del z s) op)) : wpX_remove post (cq_X c l n p g m z op) (nI s) := by
  obtain ⟨a1, a2, a3, a4, a5⟩ := hD.2.2.2 s hl
  have is : vp_in (nI s) 64 := vp_in_nI (by omega) (by omega)
  have ix : vp_in (nI (cq_cl z s) * 4 + nI (cq_cu z s)) 64 := by rw [cq_ix]; exact vp_in_nI (by omega) (by omega)
  have hcu : cq_A (cq_cu z) (nI s).toNatClampNeg = nI (cq_cu z s) := cq_rA _ (by omega)
  have hh := cq_h_del hs hl
  have hu := cq_u_del p hs hl
  have eh : cq_up (cq_h z) (cq_cl z s * 4 + cq_cu z s) (cq_h z (cq_cl z s * 4 + cq_cu z s) - 1) = cq_h (cq_del z s) := by
    funext j
    have := hh j
    by_cases w : j = cq_cl z s * 4 + cq_cu z s
    · subst w
      rw [if_pos (by simp)] at this
      rw [cq_up_s, this]
      rfl
    · rw [if_neg (by simp; omega)] at this
      rw [cq_up_n w, this]
      rfl
  have eu : (fun q => if cq_un p (cq_cl z s) q then cq_A (cq_u p z) q + (-1) else cq_A (cq_u p z) q) = cq_A (cq_u p (cq_del z s)) := by
    funext q
    have := hu q
    unfold cq_A
    by_cases w : cq_un p (cq_cl z s) q = true
    · rw [if_pos w] at this ⊢
      rw [this, pk_m1]
    · rw [if_neg w] at this ⊢
      rw [this]
      rfl
  have hpos : 0 < cq_h z (cq_cl z s * 4 + cq_cu z s) := by
    have := hh (cq_cl z s * 4 + cq_cu z s)
    rw [if_pos (by simp)] at this
    omega
  refine ⟨is, nm_r (cq_rA _ (by omega)) ?_⟩
  rw [hcu]
  refine ⟨is, ix, ix, nm_r (cq_w_dec (by omega) hpos) ⟨is, nm_r (e' := cq_G (cq_lv (cq_del z s)) (cq_id z)) (by rw [nI_clamp (by omega)]; exact cq_G_rm _ _ _) (cq_x_addToPath hT hn a1 ?_)⟩⟩
  rw [eh, eu]
  exact hp
theorem cq_x_m72 (hT : cq_T p n) (hn : n ≤ 16) {J : Int32 → (Nat → Int32) → (Nat → Int32) → (Nat → Int32) → (Nat → Int32) → (Nat → Int32) → (Nat → Int32) → (Nat → Int32) → (Nat → Int64) → (Nat → Int32) → (Nat → Int32) → (Nat → Int32) → Prop} {k : Nat} (hk : k < n) (h1 : op k = cq_bI (cq_on l n p m z k)) (h2 : ∀ j, j < k → ∃ b : Bool, op j = cq_bI b ∧ (b = true ↔ cq_Pk l n p m z (k + 1) j)) (h3 : ∀ j, k + 1 ≤ j → j < n → op j = cq_bI (cq_on l n p m z j)) (hJ : ∀ op', cq_Iv l n p m z k op' → J (nI k - 1) (cq_P p) (cq_A (cq_cc p n)) (cq_A g) (cq_A m) (cq_A (cq_u p z)) (cq_A (cq_r z)) (cq_A (cq_h z)) (cq_G (cq_lv z) (cq_id z)) (cq_A (cq_cl z)) (cq_A (cq_cu z)) op') : wX_markOpenQueues_72 post J (nI k) (nI c) (nI l) (nI n) (lN (cq_t z)) (cq_P p) (cq_A (cq_cc p n)) (cq_A g) (cq_A m) (cq_A (cq_u p z)) (cq_A (cq_r z)) (cq_A (cq_h z)) (cq_G (cq_lv z) (cq_id z)) (cq_A (cq_cl z)) (cq_A (cq_cu z)) op := by
  have ik : vp_in (nI k) 16 := vp_in_nI (by omega) (by omega)
  have ek : op (nI k).toNatClampNeg = cq_bI (cq_on l n p m z k) := by rw [nI_clamp (by omega)]; exact h1
  have pk' : ∀ j, cq_Pk l n p m z (k + 1) j → cq_Pk l n p m z k j := fun j ⟨i, a, b⟩ => ⟨i, by omega, b⟩
  have kp : ∀ j, cq_Pk l n p m z k j → cq_Pk l n p m z (k + 1) j ∨ (k ≠ 0 ∧ p k = j ∧ cq_on l n p m z k = true) := by
    rintro j ⟨i, a, b, d, e, f⟩
    by_cases w : i = k
    · subst w
      exact Or.inr ⟨d, e, f⟩
    · exact Or.inl ⟨i, by omega, b, d, e, f⟩
  have hge : ∀ j, k ≤ j → j < n → op j = cq_bI (cq_on l n p m z j) := by
    intro j a b
    by_cases w : j = k
    · subst w
      exact h1
    · exact h3 j (by omega) b
  refine ⟨ik, ?_⟩
  rw [ek]
  refine cq_b0 (fun e => nm_r (cq_m1s k) (hJ op ⟨fun j hj => ?_, hge⟩)) (fun e => ?_)
  · obtain ⟨b, b1, b2⟩ := h2 j hj
    refine ⟨b, b1, b2.trans ⟨pk' j, fun w => ?_⟩⟩
    rcases kp j w with w | ⟨_, _, w⟩
    · exact w
    · rw [e] at w
      exact absurd w (by decide)
  · by_cases k0 : k = 0
    · subst k0
      exact br_t rfl (nm_r (cq_m1s 0) (hJ op ⟨fun j hj => by omega, hge⟩))
    · have hpk := hT k (by omega) hk
      refine br_f (nI_ne0 (by omega) (by omega)) ⟨ik, ?_⟩
      rw [cq_rPp p k0 (by omega)]
      refine ⟨vp_in_nI (by omega) (by omega), nm_r (e' := upd op (p k) 1) (by rw [nI_clamp (by omega)]) (nm_r (cq_m1s k) (hJ _ ⟨fun j hj => ?_, fun j a b => ?_⟩))⟩
      · by_cases w : j = p k
        · subst w
          exact ⟨true, pk_us, ⟨fun _ => ⟨k, Nat.le_refl _, hk, k0, rfl, e⟩, fun _ => rfl⟩⟩
        · obtain ⟨b, b1, b2⟩ := h2 j hj
          refine ⟨b, by rw [pk_un w]; exact b1, b2.trans ⟨pk' j, fun w' => ?_⟩⟩
          rcases kp j w' with w' | ⟨_, w', _⟩
          · exact w'
          · exact absurd w'.symm w
      · rw [pk_un (by omega)]
        exact hge j a b
theorem cq_x_m30 (hJ : cq_J c l n p g m) (hD : cq_D T' B' n p z) (hB : B' < 2 ^ 30) (hp : ∀ op', (∀ j, j < n → op' j = cq_bI (cq_on l n p m z j)) → post (cq_X c l n p g m z op')) : ∀ k f op, k ≤ n → k < f → cq_Iv l n p m z k op → wX_markOpenQueues_30 post (nI c) (nI l) (nI n) (lN (cq_t z)) f (nI k - 1) (cq_P p) (cq_A (cq_cc p n)) (cq_A g) (cq_A m) (cq_A (cq_u p z)) (cq_A (cq_r z)) (cq_A (cq_h z)) (cq_G (cq_lv z) (cq_id z)) (cq_A (cq_cl z)) (cq_A (cq_cu z)) op := by
  have hJ' := hJ
  obtain ⟨⟨h1, h2, h3, h4, hn⟩, hT, hg, hm, h0⟩ := hJ
  intro k
  induction k with
  | zero =>
    intro f op hk hf hI
    obtain ⟨f, rfl⟩ : ∃ k, f = k + 1 := ⟨f - 1, by omega⟩
    exact br_t (by decide) (hp op (fun j hj => hI.2 j (by omega) hj))
  | succ k ih =>
    intro f op hk hf hI
    obtain ⟨f, rfl⟩ : ∃ k, f = k + 1 := ⟨f - 1, by omega⟩
    obtain ⟨i1, i2⟩ := hI
    rw [nI_pred]
    have ik : vp_in (nI k) 16 := vp_in_nI (by omega) (by omega)
    have he := cq_e_le l z k
    have fin : ∀ op', op' k = cq_bI (cq_on l n p m z k) → (∀ j, j ≠ k → op' j = op j) → wX_markOpenQueues_72 post (wX_markOpenQueues_30 post (nI c) (nI l) (nI n) (lN (cq_t z)) f) (nI k) (nI c) (nI l) (nI n) (lN (cq_t z)) (cq_P p) (cq_A (cq_cc p n)) (cq_A g) (cq_A m) (cq_A (cq_u p z)) (cq_A (cq_r z)) (cq_A (cq_h z)) (cq_G (cq_lv z) (cq_id z)) (cq_A (cq_cl z)) (cq_A (cq_cu z)) op' := by
      intro op' e1 e2
      refine cq_x_m72 hT hn (by omega) e1 (fun j hj => ?_) (fun j a b => ?_) (fun op'' h => ih f op'' (by omega) (by omega) h)
      · obtain ⟨b, b1, b2⟩ := i1 j (by omega)
        exact ⟨b, (e2 j (by omega)).trans b1, b2⟩
      · exact (e2 j (by omega)).trans (i2 j a b)
    refine br_f (nI_pos (by omega)) ⟨ik, cq_if (cq_c1 hn (by omega)) (fun e => ?_) (fun e => ?_)⟩
    · have eo : cq_on l n p m z k = cq_le l n p m z k := cq_op_leaf hT (by omega) e
      have ele : cq_le l n p m z k = (decide (cq_cc p n k = 0) && decide (0 < cq_e l z k) && cq_rm p m (cq_u p z) k) := rfl
      rw [show decide (cq_cc p n k = 0) = true by simpa using e, Bool.true_and] at ele
      have no : cq_on l n p m z k = false → wX_markOpenQueues_70 post (wX_markOpenQueues_30 post (nI c) (nI l) (nI n) (lN (cq_t z)) f) (nI k) (nI k) (nI c) (nI l) (nI n) (lN (cq_t z)) (cq_P p) (cq_A (cq_cc p n)) (cq_A g) (cq_A m) (cq_A (cq_u p z)) (cq_A (cq_r z)) (cq_A (cq_h z)) (cq_G (cq_lv z) (cq_id z)) (cq_A (cq_cl z)) (cq_A (cq_cu z)) op := by
        intro w
        refine ⟨ik, nm_r (e' := upd op k 0) (by rw [nI_clamp (by omega), cq_nar0]) (fin _ ?_ (fun j hj => pk_un hj))⟩
        rw [w]
        exact pk_us
      refine cq_x_eligibleDemand hn h3 hD hB (by omega) ?_
      by_cases e5 : 0 < cq_e l z k
      · refine br_f (by rw [show (0 : Int64) = lN 0 from rfl, lN_le (by omega) (by decide)]; omega) (cq_x_pathHasRoom hJ' (by omega) (cq_b0 (fun e6 => no ?_) (fun e6 => ⟨ik, nm_r (e' := upd op k 1) (by rw [nI_clamp (by omega), cq_nar1]) (fin _ ?_ (fun j hj => pk_un hj))⟩)))
        · rw [eo, ele, e6, Bool.and_false]
        · rw [eo, ele, e6, show decide (0 < cq_e l z k) = true by simpa using e5]
          exact pk_us
      · refine br_t (by rw [show (0 : Int64) = lN 0 from rfl, lN_le (by omega) (by decide)]; omega) (no ?_)
        rw [eo, ele, show decide (0 < cq_e l z k) = false by simpa using e5, Bool.false_and]
    · refine fin op ?_ (fun j _ => rfl)
      obtain ⟨b, b1, b2⟩ := i1 k (by omega)
      rw [b1]
      congr 1
      rw [Bool.eq_iff_iff, b2]
      refine Iff.trans ?_ (cq_op_in hT e).symm
      constructor
      · rintro ⟨i, x1, x2, x3, x4, x5⟩
        exact ⟨i, x3, x2, x4, x5⟩
      · rintro ⟨i, x3, x2, x4, x5⟩
        have := hT i (by omega) x2
        exact ⟨i, by omega, x2, x3, x4, x5⟩
theorem cq_x_m2 (hJ : cq_J c l n p g m) (hD : cq_D T' B' n p z) (hB : B' < 2 ^ 30) (hp : ∀ op', (∀ j, j < n → op' j = cq_bI (cq_on l n p m z j)) → post (cq_X c l n p g m z op')) : ∀ d j f op, j + d = n → d < f → (∀ i, i < j → op i = 0) → wX_markOpenQueues_2 post (nI c) (nI l) (nI n) (lN (cq_t z)) f (nI j) (cq_P p) (cq_A (cq_cc p n)) (cq_A g) (cq_A m) (cq_A (cq_u p z)) (cq_A (cq_r z)) (cq_A (cq_h z)) (cq_G (cq_lv z) (cq_id z)) (cq_A (cq_cl z)) (cq_A (cq_cu z)) op := by
  have hn := hJ.1.2.2.2.2
  intro d
  induction d with
  | zero =>
    intro j f op hj hf hh
    obtain ⟨f, rfl⟩ : ∃ k, f = k + 1 := ⟨f - 1, by omega⟩
    refine pk_le n j (fun _ => nm_e (Exists.intro (n + 1) (cq_x_m30 hJ hD hB hp n (n + 1) op (Nat.le_refl _) (by omega) ⟨fun i hi => ⟨false, hh i (by omega), fun w => absurd w (by decide), ?_⟩, fun i a b => by omega⟩))) (fun h => by omega)
    rintro ⟨k, a, b, _⟩
    omega
  | succ d ih =>
    intro j f op hj hf hh
    obtain ⟨f, rfl⟩ : ∃ k, f = k + 1 := ⟨f - 1, by omega⟩
    refine pk_le n j (fun h => by omega) (fun _ => ⟨vp_in_nI (by omega) (by omega), nm_r (e' := upd op j 0) (by rw [nI_clamp (by omega)]) (nm_r (nI_1 j) (ih (j + 1) f _ (by omega) (by omega) (fun i hi => ?_)))⟩)
    by_cases w : i = j
    · subst w
      exact pk_us
    · rw [pk_un w]
      exact hh i (by omega)
theorem cq_x_mark (hJ : cq_J c l n p g m) (hD : cq_D T' B' n p z) (hB : B' < 2 ^ 30) (hp : ∀ op', (∀ j, j < n → op' j = cq_bI (cq_on l n p m z j)) → post (cq_X c l n p g m z op')) : wpX_markOpenQueues post (cq_X c l n p g m z op) :=
  Exists.intro (n + 1) (cq_x_m2 hJ hD hB hp n 0 (n + 1) op (by omega) (by omega) (fun i hi => by omega))
end
