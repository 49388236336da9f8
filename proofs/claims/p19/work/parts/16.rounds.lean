/-! a round, and the end of the rounds -/
theorem cq_rd_ok {T B c l n : Nat} {p g m : Nat → Nat} {z z' : cq_Z} (hJ : cq_J c l n p g m) (hK : cq_KK c n p g m) (hD : cq_D T B n p z) (hL : cq_L n p m z) (hN : cq_N l n p m z) (e : cq_rd l n p g m z = some z') : cq_L n p m z' ∧ cq_N l n p m z' ∧ cq_t z' = cq_t z + 1 ∧ ∃ s w, s < n ∧ w < n ∧ cq_cc p n s = 0 ∧ cq_cc p n w = 0 ∧ w ≠ s ∧ cq_u p z s < g s ∧ g w < cq_u p z w ∧ ∀ q, cq_u p z' q + (if cq_un p w q then 1 else 0) = cq_u p z q + (if cq_un p s q then 1 else 0) := by
  obtain ⟨⟨h1, h2, h3, h4, h5⟩, hT, hg, hm, h0⟩ := hJ
  obtain ⟨s, a, v, es, ea, ev, rfl⟩ := cq_rd_some e
  obtain ⟨s1, s2, s3, s4⟩ := cq_sv_ok es
  obtain ⟨v1, v2, v3, v4, v5⟩ := cq_vi_ok ev
  obtain ⟨w1, w2, w3, w4, w5⟩ := hD.2.2.2 v v2
  have hs0 : s ≠ 0 := by
    intro e0
    unfold cq_fs at ea
    rw [if_pos e0] at ea
    exact absurd ea (by simp)
  have hp := hT s (by omega) s1
  have ea' : cq_fa p m z 16 (p s) = some a := by
    unfold cq_fs at ea
    rw [if_neg hs0] at ea
    exact ea
  obtain ⟨a1, a2, a3⟩ := cq_fa_some hT 16 (p s) a (by omega) ea'
  have a4 : cq_un p s a = true := by
    rw [cq_un_p hT hs0 s1, a1]
    simp
  have ha := cq_un_le hT (s + 1) s a (by omega) s1 a4
  have hur := cq_u_rq (p := p) v1 v2
  have hDr := cq_D_rq hD v2
  have her : cq_e l (cq_rq z v) s = cq_e l z s := cq_e_rq v1 v2 w2 (fun e => v3 e.symm)
  have hu0 : cq_u p (cq_rq z v) 0 < 64 := by
    have := hur 0
    rw [cq_un_rt hT _ _ (Nat.lt_succ_self _) w1] at this
    have := cq_us_le p (cq_cl z) (cq_lv z) 0
    have : cq_u p z 0 ≤ 64 := this
    simp at *
    omega
  have hb := cq_gb_ok (l := l) (x := s) hT hDr (by omega) hu0
  obtain ⟨y, k, hy, hk, eq⟩ := cq_gr_yes hb
  obtain ⟨k1, k2⟩ := cq_sl_lt hk
  obtain ⟨y1, _, _⟩ := cq_us4_lt hy
  rw [eq]
  have hup := cq_u_put p s y k1 k2
  have hu : ∀ q, cq_u p (cq_put (cq_rq z v) s y k) q + (if cq_un p (cq_cl z v) q then 1 else 0) = cq_u p z q + (if cq_un p s q then 1 else 0) := by
    intro q
    have x1 := hur q
    have x2 := hup q
    omega
  refine ⟨?_, ?_, rfl, s, cq_cl z v, s1, w1, s2, w5, v3, s3, v4, hu⟩
  · refine cq_L_put hDr (cq_L_rq hL v1 v2) k1 k2 fun q hq hsq => ?_
    have x1 := hur q
    have x2 := hL.1 q hq
    by_cases hw : cq_un p (cq_cl z v) q = true
    · rw [if_pos hw] at x1
      omega
    · rw [if_neg hw] at x1
      have hne : cq_u p z q ≠ m q := by
        intro ef
        by_cases eq0 : s = q
        · subst eq0
          have := hK.1 s s1
          omega
        · rw [cq_un_ne hT hs0 s1 eq0] at hsq
          exact hw (cq_un_trans hT (a3 q hsq ef) _ _ (Nat.lt_succ_self _) w1 v5)
      omega
  · intro x hx hc hex
    by_cases hxa : cq_un p x a = true
    · refine ⟨a, hxa, ?_⟩
      have := hu a
      rw [if_pos v5, if_pos a4] at this
      omega
    · have hxs : x ≠ s := fun e => hxa (e ▸ a4)
      have hxw : x ≠ cq_cl z v := fun e => hxa (e ▸ v5)
      rw [cq_e_put k1 k2 y1 hxs, cq_e_rq v1 v2 w2 hxw] at hex
      obtain ⟨b, b1, b2⟩ := hN x hx hc hex
      refine ⟨b, b1, ?_⟩
      have hnb : ¬ cq_un p b a = true := fun hba => hxa (cq_un_trans hT hba _ _ (Nat.lt_succ_self _) hx b1)
      have key : ∀ k, k < n → cq_un p k a = true → cq_un p k b = true → cq_un p a b = true := by
        intro k hk hka hkb
        rcases cq_un_cmp hT _ _ (Nat.lt_succ_self _) hk hka hkb with h | h
        · exact h
        · exact absurd h hnb
      have hub := hu b
      by_cases hab : cq_un p a b = true
      · rw [if_pos (cq_un_trans hT hab _ _ (Nat.lt_succ_self _) w1 v5), if_pos (cq_un_trans hT hab _ _ (Nat.lt_succ_self _) s1 a4)] at hub
        omega
      · rw [if_neg (fun h => hab (key _ w1 v5 h)), if_neg (fun h => hab (key _ s1 a4 h))] at hub
        omega
def cq_dn (p g : Nat → Nat) (n : Nat) (z : cq_Z) : Nat → Nat
  | 0 => 0
  | q + 1 => cq_dn p g n z q + (if cq_cc p n q = 0 then g q - cq_u p z q else 0)
theorem cq_dn_rd {n : Nat} {p g : Nat → Nat} {z z' : cq_Z} (hT : cq_T p n) {s w : Nat} (hs : s < n) (hw : w < n) (hc : cq_cc p n s = 0) (hne : w ≠ s) (h1 : cq_u p z s < g s) (h2 : g w < cq_u p z w) (hu : ∀ q, cq_u p z' q + (if cq_un p w q then 1 else 0) = cq_u p z q + (if cq_un p s q then 1 else 0)) : ∀ N, N ≤ n → cq_dn p g n z' N + (if s < N then 1 else 0) = cq_dn p g n z N := by
  intro N
  induction N with
  | zero =>
    intro _
    rfl
  | succ N ih =>
    intro hN
    have ih' := ih (by omega)
    show cq_dn p g n z' N + _ + _ = cq_dn p g n z N + _
    by_cases e : cq_cc p n N = 0
    · rw [if_pos e, if_pos e]
      have hq := hu N
      rw [cq_un_leaf hT hw e, cq_un_leaf hT hs e] at hq
      by_cases es : s = N
      · subst es
        rw [if_neg (by simpa using hne), if_pos (by simp)] at hq
        rw [if_neg (by omega)] at ih'
        rw [if_pos (by omega)]
        omega
      · rw [if_neg (show ¬ (s == N) = true by simpa using es)] at hq
        have e3 : (s < N + 1) ↔ (s < N) := by omega
        simp only [e3]
        by_cases ew : w = N
        · subst ew
          rw [if_pos (by simp)] at hq
          omega
        · rw [if_neg (by simpa using ew)] at hq
          omega
    · rw [if_neg e, if_neg e]
      have es : s ≠ N := fun es => e (es ▸ hc)
      have e3 : (s < N + 1) ↔ (s < N) := by omega
      simp only [e3]
      omega
theorem cq_dn_st {n : Nat} {p g : Nat → Nat} {z : cq_Z} : ∀ {N}, cq_dn p g n z N = 0 → ∀ q, q < N → cq_cc p n q = 0 → g q ≤ cq_u p z q := by
  intro N
  induction N with
  | zero =>
    intro _ q h
    omega
  | succ N ih =>
    intro h q hq hc
    have h' : cq_dn p g n z N + (if cq_cc p n N = 0 then g N - cq_u p z N else 0) = 0 := h
    by_cases e : q = N
    · subst e
      rw [if_pos hc] at h'
      omega
    · exact ih (by omega) q (by omega) hc
def cq_sm (f : Nat → Nat) : Nat → Nat
  | 0 => 0
  | q + 1 => cq_sm f q + f q
theorem cq_sm_add (f f' : Nat → Nat) : ∀ n, cq_sm (fun q => f q + f' q) n = cq_sm f n + cq_sm f' n := by
  intro n
  induction n with
  | zero => rfl
  | succ n ih =>
    show cq_sm (fun q => f q + f' q) n + (f n + f' n) = cq_sm f n + f n + (cq_sm f' n + f' n)
    omega
theorem cq_sm_mono {f f' : Nat → Nat} : ∀ {n}, (∀ q, q < n → f q ≤ f' q) → cq_sm f n ≤ cq_sm f' n := by
  intro n
  induction n with
  | zero =>
    intro _
    exact Nat.le_refl _
  | succ n ih =>
    intro h
    show cq_sm f n + f n ≤ cq_sm f' n + f' n
    have := ih (fun q hq => h q (by omega))
    have := h n (by omega)
    omega
theorem cq_sm_0 : ∀ n, cq_sm (fun _ => 0) n = 0 := by
  intro n
  induction n with
  | zero => rfl
  | succ n ih => exact ih
theorem cq_sm_one {a x : Nat} : ∀ {n}, a < n → cq_sm (fun q => if a = q then x else 0) n = x := by
  intro n
  induction n with
  | zero =>
    intro h
    omega
  | succ n ih =>
    intro h
    show cq_sm (fun q => if a = q then x else 0) n + (if a = n then x else 0) = x
    by_cases e : a = n
    · subst e
      rw [if_pos rfl]
      have : ∀ k, k ≤ a → cq_sm (fun q => if a = q then x else 0) k = 0 := by
        intro k
        induction k with
        | zero =>
          intro _
          rfl
        | succ k ihk =>
          intro hk
          show cq_sm (fun q => if a = q then x else 0) k + (if a = k then x else 0) = 0
          rw [ihk (by omega), if_neg (by omega)]
      rw [this a (Nat.le_refl _)]
      omega
    · rw [ih (by omega), if_neg e, Nat.add_zero]
theorem cq_cs_all {p g : Nat → Nat} {n : Nat} (hT : cq_T p n) : ∀ M, M ≤ n → cq_sm (fun q => cq_cs p g q M) n = cq_sm (fun j => if j = 0 then 0 else g j) M := by
  intro M
  induction M with
  | zero =>
    intro _
    exact cq_sm_0 n
  | succ M ih =>
    intro hM
    show cq_sm (fun q => cq_cs p g q M + (if !(M == 0) && (p M == q) then g M else 0)) n = cq_sm (fun j => if j = 0 then 0 else g j) M + (if M = 0 then 0 else g M)
    rw [cq_sm_add, ih (by omega)]
    by_cases e : M = 0
    · subst e
      rw [if_pos rfl]
      have : cq_sm (fun q => if !((0 : Nat) == 0) && (p 0 == q) then g 0 else 0) n = cq_sm (fun _ => 0) n := by
        congr 1
      rw [this, cq_sm_0]
    · have := hT M (by omega) (by omega)
      rw [if_neg e]
      have e2 : (fun q => if !(M == 0) && (p M == q) then g M else 0) = fun q => if p M = q then g M else 0 := by
        funext q
        simp [e]
      rw [e2, cq_sm_one (by omega)]
theorem cq_dn_le {c n : Nat} {p g m : Nat → Nat} (hT : cq_T p n) (h1 : 1 ≤ n) (hK : cq_KK c n p g m) (z : cq_Z) : cq_dn p g n z n ≤ c := by
  have hd : ∀ N, N ≤ n → cq_dn p g n z N + cq_sm (fun q => cq_cs p g q n) N ≤ cq_sm g N := by
    intro N
    induction N with
    | zero =>
      intro _
      exact Nat.le_refl _
    | succ N ih =>
      intro hN
      have := ih (by omega)
      have hs := hK.2.2 N (by omega)
      show cq_dn p g n z N + (if cq_cc p n N = 0 then g N - cq_u p z N else 0) + (cq_sm (fun q => cq_cs p g q n) N + cq_cs p g N n) ≤ cq_sm g N + g N
      by_cases e : cq_cc p n N = 0
      · have e0 : ∀ k, k ≤ n → cq_cs p g N k = 0 := by
          intro k
          induction k with
          | zero =>
            intro _
            rfl
          | succ k ihk =>
            intro hk
            show cq_cs p g N k + _ = 0
            rw [ihk (by omega), if_neg]
            simp only [Bool.and_eq_true, Bool.not_eq_true', beq_eq_false_iff_ne, beq_iff_eq]
            rintro ⟨x1, x2⟩
            exact cq_cc_0 e x1 (by omega) x2
        rw [e0 n (Nat.le_refl _), if_pos e]
        omega
      · rw [if_neg e]
        omega
  have h2 := hd n (Nat.le_refl _)
  rw [cq_cs_all hT n (Nat.le_refl _)] at h2
  have h3 : ∀ N, 1 ≤ N → cq_sm g N = cq_sm (fun j => if j = 0 then 0 else g j) N + g 0 := by
    intro N
    induction N with
    | zero =>
      intro h
      omega
    | succ N ih =>
      intro _
      show cq_sm g N + g N = cq_sm (fun j => if j = 0 then 0 else g j) N + (if N = 0 then 0 else g N) + g 0
      by_cases e : N = 0
      · subst e
        rw [if_pos rfl]
        rfl
      · rw [if_neg e, ih (by omega)]
        omega
  have := h3 n h1
  have := hK.2.1
  omega
theorem cq_pz_ok {c l n : Nat} {p g m : Nat → Nat} (hJ : cq_J c l n p g m) (hK : cq_KK c n p g m) : ∀ d T B z, cq_D T B n p z → cq_L n p m z → cq_N l n p m z → cq_dn p g n z n ≤ d → cq_L n p m (cq_pz l n p g m d z) ∧ cq_sv l n p g (cq_pz l n p g m d z) = none ∧ cq_t (cq_pz l n p g m d z) = cq_t z + cq_pn l n p g m d z ∧ cq_u p (cq_pz l n p g m d z) 0 = cq_u p z 0 := by
  intro d
  induction d with
  | zero =>
    intro T B z hD hL hN hd
    refine ⟨hL, ?_, rfl, rfl⟩
    show cq_sv l n p g z = none
    cases e : cq_sv l n p g z with
    | none => rfl
    | some s =>
      obtain ⟨s1, s2, s3, _⟩ := cq_sv_ok e
      have := cq_dn_st (Nat.le_zero.mp hd) s s1 s2
      omega
  | succ d ih =>
    intro T B z hD hL hN hd
    unfold cq_pz cq_pn
    cases e : cq_rd l n p g m z with
    | none =>
      refine ⟨hL, ?_, rfl, rfl⟩
      show cq_sv l n p g z = none
      cases es : cq_sv l n p g z with
      | none => rfl
      | some s =>
        obtain ⟨z', hz⟩ := cq_rd_ex hJ hK hD hL hN es
        rw [e] at hz
        exact absurd hz (by simp)
    | some z' =>
      obtain ⟨x1, x2, x3, s, w, s1, w1, s2, w2, hne, hs, hw, hu⟩ := cq_rd_ok hJ hK hD hL hN e
      have hdn := cq_dn_rd hJ.2.1 s1 w1 s2 hne hs hw hu n (Nat.le_refl _)
      rw [if_pos s1] at hdn
      obtain ⟨y1, y2, y3, y4⟩ := ih (T + 1) (B + 1) z' (cq_rd_D hD e) x1 x2 (by omega)
      refine ⟨y1, y2, ?_, ?_⟩
      · show cq_t (cq_pz l n p g m d z') = cq_t z + (cq_pn l n p g m d z' + 1)
        rw [y3, x3]
        omega
      · show cq_u p (cq_pz l n p g m d z') 0 = cq_u p z 0
        rw [y4]
        have h0 := hu 0
        rw [cq_un_rt hJ.2.1 _ _ (Nat.lt_succ_self _) w1, cq_un_rt hJ.2.1 _ _ (Nat.lt_succ_self _) s1] at h0
        simpa using h0
/-! ids and slots -/
def cq_iq (z : cq_Z) (q d : Nat) : Bool := match cq_fnd (cq_at z d) 0 64 with
  | none => false
  | some s => cq_cl z s == q
theorem cq_ids {z : cq_Z} {q K : Nat} (hd : ∀ i j, cq_lv z i = true → cq_lv z j = true → cq_id z i = cq_id z j → i = j) (hK : ∀ i, cq_lv z i = true → cq_id z i < K) : ∀ N, cq_cnt (fun d => cq_any (fun i => cq_at z d i && (cq_cl z i == q)) N) K = cq_cnt (fun i => cq_lv z i && (cq_cl z i == q)) N := by
  intro N
  induction N with
  | zero => exact cq_cnt_0 (fun _ _ => rfl)
  | succ N ih =>
    rw [cq_cnt_s, ← ih]
    cases w : (cq_lv z N && (cq_cl z N == q)) with
    | false =>
      rw [if_neg (by decide)]
      refine cq_cnt_congr fun d _ => ?_
      show (cq_any _ N || (cq_at z d N && (cq_cl z N == q))) = _
      unfold cq_at
      cases w1 : cq_lv z N with
      | false => simp
      | true =>
        rw [w1, Bool.true_and] at w
        rw [w, Bool.and_false, Bool.or_false]
    | true =>
      rw [Bool.and_eq_true] at w
      rw [if_pos rfl]
      have := cq_cnt_set (f := fun d => cq_any (fun i => cq_at z d i && (cq_cl z i == q)) N) (f' := fun d => cq_any (fun i => cq_at z d i && (cq_cl z i == q)) (N + 1)) (s := cq_id z N) (n := K) (fun d hne => by
        show (cq_any _ N || (cq_at z d N && (cq_cl z N == q))) = _
        have e : (cq_id z N == d) = false := by simpa using fun h => hne h.symm
        unfold cq_at
        rw [e, Bool.and_false, Bool.false_and, Bool.or_false]) (by
        refine cq_any_f fun i hi => ?_
        unfold cq_at
        cases w1 : cq_lv z i with
        | false => rfl
        | true =>
          have e : (cq_id z i == cq_id z N) = false := by
            simp only [beq_eq_false_iff_ne, ne_eq]
            intro h
            have := hd i N w1 w.1 h
            omega
          rw [e]
          rfl) (hK N w.1)
      rw [this]
      have e : cq_any (fun i => cq_at z (cq_id z N) i && (cq_cl z i == q)) (N + 1) = true := cq_any_iff.mpr ⟨N, by omega, by
        unfold cq_at
        rw [w.1, w.2]
        simp⟩
      show _ + (if cq_any (fun i => cq_at z (cq_id z N) i && (cq_cl z i == q)) (N + 1) then 1 else 0) = _
      rw [e]
      rfl
theorem cq_iq_any {z : cq_Z} (hd : ∀ i j, cq_lv z i = true → cq_lv z j = true → cq_id z i = cq_id z j → i = j) (q d : Nat) : cq_iq z q d = cq_any (fun i => cq_at z d i && (cq_cl z i == q)) 64 := by
  unfold cq_iq
  cases e : cq_fnd (cq_at z d) 0 64 with
  | none =>
    symm
    refine cq_any_f fun i hi => ?_
    rw [cq_fnd_none e i (by omega) (by omega)]
    rfl
  | some s =>
    obtain ⟨a, _, b⟩ := cq_fnd_some e
    have a' := a
    unfold cq_at at a'
    simp only [Bool.and_eq_true, beq_iff_eq] at a'
    dsimp only
    cases w : (cq_cl z s == q) with
    | true => exact (cq_any_iff.mpr ⟨s, by omega, by rw [a, w]; rfl⟩).symm
    | false =>
      symm
      refine cq_any_f fun i hi => ?_
      cases y : cq_at z d i with
      | false => rfl
      | true =>
        unfold cq_at at y
        simp only [Bool.and_eq_true, beq_iff_eq] at y
        have := hd i s y.1 a'.1 (y.2.trans a'.2.symm)
        subst this
        rw [w]
        rfl
