/-! the law's checks, over a state that keeps the picture -/
theorem cq_l_mod {post : Int32 → Prop} {a : Int32} {k : Nat} (h0 : 0 < k) (hk : k < 2 ^ 31) (hp : ∀ r, r < k → post (nI r)) : wpL_mod post () a (nI k) := by
  obtain ⟨x, e, hx⟩ := fmv_nat (a := a) (m := nI k) (by rw [nI_toInt hk]; omega)
  rw [nI_toInt hk] at hx
  have hpx := hp x (by omega)
  refine ⟨nI_ne0 h0 hk, nm_e ?_⟩
  unfold fmv fmOf at e
  by_cases h : 0 ≤ a - a / nI k * nI k
  · rw [if_pos h] at e
    refine br_t h ?_
    rw [e]
    exact hpx
  · rw [if_neg h] at e
    refine br_f h ?_
    rw [e]
    exact hpx
theorem cq_l_cell {post : Int32 → Prop} {L : Nat} {xs : Nat → Int32} {i : Nat} (hL : L < 2 ^ 31) (hi : i < 2 ^ 31) (hp : ∀ r, post r) : wpL_cell post L xs () (nI i) :=
  pk_le L i (fun _ => hp _) (fun h => ⟨vp_in_nI h hL, hp _⟩)
def cq_sh (z : cq_Z) (q : Nat) : Nat → Nat
  | 0 => 0
  | k + 1 => cq_sh z q k + cq_h z (q * 4 + k)
theorem cq_sh_le (z : cq_Z) (q k : Nat) : cq_sh z q k ≤ 64 * k := by
  induction k with
  | zero => exact Nat.le_refl 0
  | succ k ih =>
    have : cq_h z (q * 4 + k) ≤ 64 := cq_hs_le _ _ _ _
    show cq_sh z q k + cq_h z (q * 4 + k) ≤ 64 * (k + 1)
    omega
theorem cq_cc_s {p : Nat → Nat} {q i : Nat} : cq_cc p (i + 1) q = cq_cc p i q + (if (!(i == 0) && (p i == q)) then 1 else 0) := rfl
section
variable {b c l n : Nat} {p g m : Nat → Nat} {z : cq_Z} {op : Nat → Int32} {post : Int32 → Prop} {L : Nat} {xs : Nat → Int32} {J45 : Int32 → Int32 → Int32 → Int32 → Int32 → Int32 → Int64 → (Nat → Int32) → (Nat → Int32) → (Nat → Int32) → (Nat → Int32) → (Nat → Int32) → (Nat → Int32) → (Nat → Int32) → (Nat → Int64) → (Nat → Int32) → (Nat → Int32) → (Nat → Int32) → Prop} {J94 : Int32 → Prop} {x1 x5 x6 : Int32} {kc ks M : Nat}
theorem cq_x_parentOf (hn : n ≤ 16) {j : Nat} (hj : j < n) {post : Int32 → Prop} (hp : post (cq_P p (nI j).toNatClampNeg)) : wpX_parentOf post (cq_X c l n p g m z op) (nI j) := by
  unfold wpX_parentOf
  exact cq_x_isQueue hn hj (br_f (by decide) ⟨vp_in_nI (by omega) (by omega), hp⟩)
theorem cq_x_guarantee (hn : n ≤ 16) {j : Nat} (hj : j < n) {post : Int32 → Prop} (hp : post (nI (g j))) : wpX_guarantee post (cq_X c l n p g m z op) (nI j) := by
  unfold wpX_guarantee
  refine cq_x_isQueue hn hj (br_f (by decide) ⟨vp_in_nI (by omega) (by omega), ?_⟩)
  rw [cq_rA g (by omega)]
  exact hp
theorem cq_x_maxCapacity (hn : n ≤ 16) {j : Nat} (hj : j < n) {post : Int32 → Prop} (hp : post (nI (m j))) : wpX_maxCapacity post (cq_X c l n p g m z op) (nI j) := by
  unfold wpX_maxCapacity
  refine cq_x_isQueue hn hj (br_f (by decide) ⟨vp_in_nI (by omega) (by omega), ?_⟩)
  rw [cq_rA m (by omega)]
  exact hp
theorem cq_x_used (hn : n ≤ 16) {j : Nat} (hj : j < n) {post : Int32 → Prop} (hp : post (nI (cq_u p z j))) : wpX_used post (cq_X c l n p g m z op) (nI j) := by
  unfold wpX_used
  refine cq_x_isQueue hn hj (br_f (by decide) ⟨vp_in_nI (by omega) (by omega), ?_⟩)
  rw [cq_rA (cq_u p z) (by omega)]
  exact hp
theorem cq_x_userUsed (hn : n ≤ 16) {j u : Nat} (hj : j < n) (hc : cq_cc p n j = 0) (hu : u < 4) {post : Int32 → Prop} (hp : post (nI (cq_h z (j * 4 + u)))) : wpX_userUsed post (cq_X c l n p g m z op) (nI j) (nI u) := by
  unfold wpX_userUsed
  refine cq_x_isQueue hn hj (br_f (by decide) (cq_x_isUser hu (br_f (by decide) (cq_x_isLeaf hn hj ?_))))
  rw [cq_hc_f hc]
  refine br_f (by decide) ⟨by rw [cq_ix]; exact vp_in_nI (by omega) (by omega), ?_⟩
  rw [cq_ix, cq_rA _ (by omega)]
  exact hp
theorem cq_x_pending (hn : n ≤ 16) {j u : Nat} (hj : j < n) (hc : cq_cc p n j = 0) (hu : u < 4) {post : Int32 → Prop} (hp : post (nI (cq_r z (j * 4 + u)))) : wpX_pending post (cq_X c l n p g m z op) (nI j) (nI u) := by
  unfold wpX_pending
  refine cq_x_isQueue hn hj (br_f (by decide) (cq_x_isUser hu (br_f (by decide) (cq_x_isLeaf hn hj ?_))))
  rw [cq_hc_f hc]
  refine br_f (by decide) ⟨by rw [cq_ix]; exact vp_in_nI (by omega) (by omega), ?_⟩
  rw [cq_ix, cq_rA _ (by omega)]
  exact hp
theorem cq_x_containerInfo {T' B' : Nat} (hD : cq_D T' B' n p z) (hT' : T' < 2 ^ 31) {d : Nat} (hd0 : 0 < d) (hd : d < 2 ^ 31) {post : Int32 → Prop} (h0 : cq_fnd (cq_at z d) 0 64 = none → post (-1)) (h1 : ∀ s, cq_fnd (cq_at z d) 0 64 = some s → post (nI (cq_cl z s * 4 + cq_cu z s))) : wpX_containerInfo post (cq_X c l n p g m z op) (nI d) := by
  unfold wpX_containerInfo
  refine cq_x_slotOf hD hT' hd0 hd ?_
  cases e : cq_fnd (cq_at z d) 0 64 with
  | none => exact br_t rfl (h0 e)
  | some s =>
    obtain ⟨a, _, b⟩ := cq_fnd_some e
    have is : vp_in (nI s) 64 := vp_in_nI (by omega) (by omega)
    have hp := h1 s e
    refine br_f (cq_m1 (by omega)) ⟨is, is, ?_⟩
    show post (cq_A (cq_cl z) (nI s).toNatClampNeg * 4 + cq_A (cq_cu z) (nI s).toNatClampNeg)
    rw [cq_rA _ (by omega), cq_rA _ (by omega), cq_ix]
    exact hp
/-- the ids counted are the live containers -/
theorem cq_ids_u (hI : cq_In b c l n p g m z) {q : Nat} (hc : cq_cc p n q = 0) {K : Nat} (hK : cq_t z ≤ K) : cq_cnt (cq_iq z q) K = cq_u p z q := by
  obtain ⟨hJ, hD, hL, hKK⟩ := hI
  rw [cq_cnt_congr (f := fun d => cq_any (fun i => cq_at z d i && (cq_cl z i == q)) 64) (fun d _ => cq_iq_any hL.2.2 q d)]
  rw [cq_ids hL.2.2 (fun i hi => by have := (hD.2.2.2 i hi).2.2.2.1; omega) 64]
  refine cq_cnt_congr fun i _ => ?_
  cases w : cq_lv z i with
  | false => rfl
  | true => rw [cq_un_leaf hJ.2.1 (hD.2.2.2 i w).1 hc]
theorem cq_l_309 (hI : cq_In b c l n p g m z) (hb : b < 2 ^ 29) (hM : M + 1 = cq_t z) (hx5 : x5 = 0 ∨ cq_sv l n p g z = none) {q : Nat} (hq : q < n) (hc : cq_cc p n q = 0) {x9 : Int32} (hJ94 : J94 (nI (q + 1))) : ∀ d i f, i + d = M + 65 → 1 ≤ i → d < f → wL_law_309 post L xs J45 J94 x1 (nI M) x5 x6 (nI n) x9 (nI q) (nI (cq_u p z q)) (nI (cq_e l z q)) kc ks (nI c) (nI l) (nI n) (lN (cq_t z)) (cq_P p) (cq_A (cq_cc p n)) (cq_A g) (cq_A m) (cq_A (cq_u p z)) (cq_A (cq_r z)) (cq_A (cq_h z)) (cq_G (cq_lv z) (cq_id z)) (cq_A (cq_cl z)) (cq_A (cq_cu z)) op f (nI (cq_cnt (cq_iq z q) i)) (nI i) := by
  have hI' := hI
  obtain ⟨hJ, hD, hL, hKK⟩ := hI
  have hn := hJ.1.2.2.2.2
  have ht := hD.1.2
  have hu : cq_u p z q ≤ 64 := cq_us_le _ _ _ _
  have hg := hJ.2.2.1 q
  have he := cq_e_le l z q
  have hl := hJ.1.2.2.1
  intro d
  induction d with
  | zero =>
    intro i f hi h1 hf
    obtain ⟨f, rfl⟩ : ∃ k, f = k + 1 := ⟨f - 1, by omega⟩
    have e : cq_cnt (cq_iq z q) i = cq_u p z q := cq_ids_u hI' hc (by omega)
    rw [e]
    refine cq_if (d := M + 64 < i) (by rw [show (64 : Int32) = nI 64 from rfl, nI_add]; exact nI_ltI (by omega) (by omega)) (fun _ => br_t rfl ?_) (fun w => absurd (show M + 64 < i by omega) w)
    by_cases w5 : x5 = 0
    · exact br_t w5 (nm_r (nI_1 q) hJ94)
    · refine br_f w5 (cq_x_guarantee hn hq (pk_le (g q) (cq_u p z q) (fun _ => nm_r (nI_1 q) hJ94) (fun w => ?_)))
      have hsv := hx5.resolve_left w5
      have he0 : cq_e l z q = 0 := by
        have h3 := cq_fnd_none hsv q (by omega) (by omega)
        apply Nat.eq_zero_of_not_pos
        intro h4
        rw [cq_st_yes hc w h4] at h3
        exact absurd h3 (by decide)
      rw [he0]
      exact br_t (by decide) (nm_r (nI_1 q) hJ94)
  | succ d ih =>
    intro i f hi h1 hf
    obtain ⟨f, rfl⟩ : ∃ k, f = k + 1 := ⟨f - 1, by omega⟩
    have ih' := ih (i + 1) f (by omega) (by omega) (by omega)
    rw [cq_cnt_s] at ih'
    refine cq_if (d := M + 64 < i) (by rw [show (64 : Int32) = nI 64 from rfl, nI_add]; exact nI_ltI (by omega) (by omega)) (fun w => by omega) (fun _ => cq_x_containerInfo hD (by omega) (by omega) (by omega) (fun e => ?_) (fun s e => ?_))
    · rw [show cq_iq z q i = false by unfold cq_iq; rw [e]] at ih'
      exact br_t (by decide) (nm_r (nI_1 i) ih')
    · obtain ⟨a1, _, a2⟩ := cq_fnd_some e
      have hls : cq_lv z s = true := by
        unfold cq_at at a1
        simp only [Bool.and_eq_true] at a1
        exact a1.1
      obtain ⟨b1, b2, b3, b4, b5⟩ := hD.2.2.2 s hls
      have eq : cq_iq z q i = (cq_cl z s == q) := by unfold cq_iq; rw [e]
      have ed : nI (cq_cl z s * 4 + cq_cu z s) / 4 = nI (cq_cl z s) := by
        rw [show (4 : Int32) = nI 4 from rfl, pk_div (by omega) (by decide) (by decide)]
        congr 1
        omega
      refine br_f (nI_pos (by omega)) ⟨by decide, ?_⟩
      rw [ed]
      refine pk_eq (cq_cl z s) q (fun w => nm_r (nI_1 _) (nm_r (nI_1 i) ?_)) (fun w => nm_r (nI_1 i) ?_)
      · rw [eq, show (cq_cl z s == q) = true by simpa using w] at ih'
        exact ih'
      · rw [eq, show (cq_cl z s == q) = false by simpa using w] at ih'
        exact ih'
theorem cq_l_224 (hI : cq_In b c l n p g m z) (hb : b < 2 ^ 29) (hM : M + 1 = cq_t z) (hx5 : x5 = 0 ∨ cq_sv l n p g z = none) {q : Nat} (hq : q < n) (hc : cq_cc p n q = 0) (hJ94 : J94 (nI (q + 1))) : ∀ d k f, k + d = 4 → d < f → wL_law_224 post L xs J45 J94 x1 (nI M) x5 x6 (nI n) (nI l) (nI q) (nI (cq_u p z q)) kc ks (nI c) (nI l) (nI n) (lN (cq_t z)) (cq_P p) (cq_A (cq_cc p n)) (cq_A g) (cq_A m) (cq_A (cq_u p z)) (cq_A (cq_r z)) (cq_A (cq_h z)) (cq_G (cq_lv z) (cq_id z)) (cq_A (cq_cl z)) (cq_A (cq_cu z)) op f (nI (cq_sh z q k)) (nI (cq_E (cq_r z) (cq_h z) l q k)) (nI k) := by
  have hI' := hI
  obtain ⟨hJ, hD, hL, hKK⟩ := hI
  have hn := hJ.1.2.2.2.2
  have h64 := hJ.1.2.2.1
  have ht := hD.1.2
  intro d
  induction d with
  | zero =>
    intro k f hk hf
    obtain ⟨f, rfl⟩ : ∃ k, f = k + 1 := ⟨f - 1, by omega⟩
    have e : k = 4 := by omega
    subst e
    have es : cq_sh z q 4 = cq_u p z q := by
      have := cq_us_leaf (cu := cq_cu z) hJ.2.1 hc (fun i hi => ⟨(hD.2.2.2 i hi).1, (hD.2.2.2 i hi).2.1⟩) 64
      show 0 + cq_h z (q * 4 + 0) + cq_h z (q * 4 + 1) + cq_h z (q * 4 + 2) + cq_h z (q * 4 + 3) = cq_u p z q
      rw [Nat.zero_add]
      exact this.symm
    rw [es]
    have e1 : cq_cnt (cq_iq z q) 1 = 0 := by
      refine cq_cnt_0 fun i hi => ?_
      have hi0 : i = 0 := by omega
      subst hi0
      unfold cq_iq
      cases w : cq_fnd (cq_at z 0) 0 64 with
      | none => rfl
      | some s =>
        obtain ⟨a1, _, _⟩ := cq_fnd_some w
        unfold cq_at at a1
        simp only [Bool.and_eq_true, beq_iff_eq] at a1
        have := (hD.2.2.2 s a1.1).2.2.1
        omega
    have h309 := cq_l_309 (post := post) (L := L) (xs := xs) (J45 := J45) (x1 := x1) (x6 := x6) (kc := kc) (ks := ks) (op := op) (x9 := nI l) hI' hb hM hx5 hq hc hJ94 (M + 64) 1 (M + 65) (by omega) (by omega) (by omega)
    rw [e1] at h309
    exact pk_le 4 4 (fun _ => br_t rfl (Exists.intro (M + 65) h309)) (fun h => by omega)
  | succ d ih =>
    intro k f hk hf
    obtain ⟨f, rfl⟩ : ∃ k, f = k + 1 := ⟨f - 1, by omega⟩
    have ih' := ih (k + 1) f (by omega) (by omega)
    rw [cq_E_s, show cq_sh z q (k + 1) = cq_sh z q k + cq_h z (q * 4 + k) from rfl] at ih'
    have hh : cq_h z (q * 4 + k) ≤ 64 := cq_hs_le _ _ _ _
    have hr := hD.2.1 (q * 4 + k)
    refine pk_le 4 k (fun h => by omega) (fun _ => cq_x_userUsed hn hq hc (by omega) (nm_r (nI_add _ _) ?_))
    by_cases hl : l ≤ cq_h z (q * 4 + k)
    · refine nm_e (br_t ((cq_s1 h64 hh).mpr hl) (nm_r (nI_1 k) ?_))
      rw [show min (cq_r z (q * 4 + k)) (l - cq_h z (q * 4 + k)) = 0 by omega] at ih'
      exact ih'
    · refine nm_r (pk_sub (by omega)) (br_f (nI_nle (by omega) (by omega)) (cq_x_pending hn hq hc (by omega) (pk_le (l - cq_h z (q * 4 + k)) (cq_r z (q * 4 + k)) (fun hle => nm_r (nI_add _ _) (nm_r (nI_1 k) ?_)) (fun hle => nm_r (nI_add _ _) (nm_r (nI_1 k) ?_)))))
      · rw [show min (cq_r z (q * 4 + k)) (l - cq_h z (q * 4 + k)) = l - cq_h z (q * 4 + k) by omega] at ih'
        exact ih'
      · rw [show min (cq_r z (q * 4 + k)) (l - cq_h z (q * 4 + k)) = cq_r z (q * 4 + k) by omega] at ih'
        exact ih'
theorem cq_cs_u {q : Nat} : ∀ k, cq_cs p (cq_u p z) q k ≤ 64 * k := fun k => cq_cs_le (fun q => cq_us_le _ _ _ _) q k
theorem cq_l_139 (hI : cq_In b c l n p g m z) (hb : b < 2 ^ 29) (hM : M + 1 = cq_t z) (hx5 : x5 = 0 ∨ cq_sv l n p g z = none) {q : Nat} (hq : q < n) (hJ94 : J94 (nI (q + 1))) : ∀ d k f, k + d = n → d < f → wL_law_139 post L xs J45 J94 x1 (nI M) x5 x6 (nI n) (nI l) (nI q) (nI (cq_u p z q)) kc ks (nI c) (nI l) (nI n) (lN (cq_t z)) (cq_P p) (cq_A (cq_cc p n)) (cq_A g) (cq_A m) (cq_A (cq_u p z)) (cq_A (cq_r z)) (cq_A (cq_h z)) (cq_G (cq_lv z) (cq_id z)) (cq_A (cq_cl z)) (cq_A (cq_cu z)) op f (cq_bI (decide (cq_cc p k q = 0))) (nI (cq_cs p (cq_u p z) q k)) (nI (cq_cs p g q k)) (nI k) := by
  have hI' := hI
  obtain ⟨hJ, hD, hL, hKK⟩ := hI
  have hn := hJ.1.2.2.2.2
  have hT := hJ.2.1
  have hg := hJ.2.2.1
  intro d
  induction d with
  | zero =>
    intro k f hk hf
    obtain ⟨f, rfl⟩ : ∃ k, f = k + 1 := ⟨f - 1, by omega⟩
    have e : k = n := by omega
    subst e
    have hs := hKK.2.2 q hq
    have hgq := hg q
    refine pk_le k k (fun _ => cq_x_guarantee hn hq (pk_le (cq_cs p g q k) (g q) (fun _ => cq_b0 (fun w => ?_) (fun w => ?_)) (fun h => by omega))) (fun h => by omega)
    · have hc : cq_cc p k q ≠ 0 := by simpa using w
      have e : cq_u p z q = cq_cs p (cq_u p z) q k := cq_us_in hT hc (fun i hi => ⟨(hD.2.2.2 i hi).1, (hD.2.2.2 i hi).2.2.2.2⟩) 64
      refine br_t (congrArg nI e) (nm_r (nI_1 q) hJ94)
    · have hc : cq_cc p k q = 0 := by simpa using w
      exact Exists.intro 5 (cq_l_224 hI' hb hM hx5 hq hc hJ94 4 0 5 (by omega) (by omega))
  | succ d ih =>
    intro k f hk hf
    obtain ⟨f, rfl⟩ : ∃ k, f = k + 1 := ⟨f - 1, by omega⟩
    have ih' := ih (k + 1) f (by omega) (by omega)
    rw [cq_cs_s, cq_cs_s, cq_cc_s] at ih'
    refine pk_le n k (fun h => by omega) (fun _ => cq_x_parentOf hn (by omega) ?_)
    by_cases k0 : k = 0
    · subst k0
      exact br_f (cq_pe0 (by omega)) (nm_r (nI_1 0) ih')
    · refine cq_if (cq_pe hT hn k0 (by omega) (by omega)) (fun e => cq_x_used hn (by omega) (nm_r (nI_add _ _) (cq_x_guarantee hn (by omega) (nm_r (nI_add _ _) (nm_r (nI_1 k) ?_))))) (fun e => nm_r (nI_1 k) ?_)
      · have w : (!(k == 0) && (p k == q)) = true := by simp [k0, e]
        rw [if_pos w, if_pos w, if_pos w, show decide (cq_cc p k q + 1 = 0) = false by simp] at ih'
        exact ih'
      · have w : ¬ (!(k == 0) && (p k == q)) = true := by simp [e]
        rw [if_neg w, if_neg w, if_neg w] at ih'
        exact ih'
theorem cq_l_94 (hI : cq_In b c l n p g m z) (hb : b < 2 ^ 29) (hM : M + 1 = cq_t z) (hx5 : x5 = 0 ∨ cq_sv l n p g z = none) (hE : ∀ f, wL_law_94 post L xs J45 x1 (nI M) x5 x6 (nI n) (nI l) kc ks (nI c) (nI l) (nI n) (lN (cq_t z)) (cq_P p) (cq_A (cq_cc p n)) (cq_A g) (cq_A m) (cq_A (cq_u p z)) (cq_A (cq_r z)) (cq_A (cq_h z)) (cq_G (cq_lv z) (cq_id z)) (cq_A (cq_cl z)) (cq_A (cq_cu z)) op (f + 1) (nI n)) : ∀ d q f, q + d = n → d < f → wL_law_94 post L xs J45 x1 (nI M) x5 x6 (nI n) (nI l) kc ks (nI c) (nI l) (nI n) (lN (cq_t z)) (cq_P p) (cq_A (cq_cc p n)) (cq_A g) (cq_A m) (cq_A (cq_u p z)) (cq_A (cq_r z)) (cq_A (cq_h z)) (cq_G (cq_lv z) (cq_id z)) (cq_A (cq_cl z)) (cq_A (cq_cu z)) op f (nI q) := by
  have hI' := hI
  obtain ⟨hJ, hD, hL, hKK⟩ := hI
  have hn := hJ.1.2.2.2.2
  have hm := hJ.2.2.2.1
  intro d
  induction d with
  | zero =>
    intro q f hq hf
    obtain ⟨f, rfl⟩ : ∃ k, f = k + 1 := ⟨f - 1, by omega⟩
    have e : q = n := by omega
    subst e
    exact hE f
  | succ d ih =>
    intro q f hq hf
    obtain ⟨f, rfl⟩ : ∃ k, f = k + 1 := ⟨f - 1, by omega⟩
    have hu : cq_u p z q ≤ 64 := cq_us_le _ _ _ _
    have hmq := hm q
    have hum := hL.1 q (by omega)
    refine pk_le n q (fun h => by omega) (fun _ => cq_x_used hn (by omega) (br_f (nI_pos (by omega)) (cq_x_maxCapacity hn (by omega) (pk_le (cq_u p z q) (m q) (fun _ => ?_) (fun h => by omega)))))
    exact Exists.intro (n + 1) (cq_l_139 hI' hb hM hx5 (by omega) (ih (q + 1) f (by omega) (by omega)) n 0 (n + 1) (by omega) (by omega))
end
