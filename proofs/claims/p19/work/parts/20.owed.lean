theorem i_vc (xs : Nat → Int32) (L : Nat) (hL : L ≤ 260) : wpL_law (fun r => r = 1) L xs := by
  refine cq_l_cell (i := 0) (by omega) (by decide) (fun r1 => cq_l_mod (k := 24) (by decide) (by decide) (fun a ha => nm_r (nI_add 1 a) ?_))
  refine cq_l_cell (i := 1) (by omega) (by decide) (fun r2 => cq_l_mod (k := 6) (by decide) (by decide) (fun b hb => nm_r (nI_add 1 b) ?_))
  refine ⟨11, 416, by decide, by decide, ?_⟩
  obtain ⟨c, c1, c2, hc⟩ := cq_clamp (nI (1 + a))
  obtain ⟨l, l1, l2, hl⟩ := cq_clamp (nI (1 + b))
  have ec : c = 1 + a := by
    have h := hc (fun r => r = nI c) rfl
    have h2 := (h.1 (show nI 1 ≤ nI (1 + a) from nI_le (by omega) (by omega))).1 (show nI (1 + a) ≤ nI 64 from nI_le (by omega) (by decide))
    exact ((nI_eq (by omega) (by omega)).mp h2).symm
  have eP : upd (fun _ => 0) 0 (-1) = cq_P (fun _ => 0) := by
    funext j
    unfold upd cq_P
    by_cases w : j = 0
    · rw [if_pos w, if_pos w]
    · rw [if_neg w, if_neg w]
      rfl
  have eG : upd (fun _ => 0) 0 (nI c) = cq_A (cq_up (fun _ => 0) 0 c) := cq_A_up (fun _ => 0) 0 c
  have eC : cq_A (cq_cc (fun _ => 0) 1) = fun _ => 0 := by
    funext q
    rfl
  have u0 : ∀ q, cq_u (fun _ => 0) (1, fun _ => 0, fun _ => 0, fun _ => 0, fun _ => 0, fun _ => false) q = 0 := fun q => cq_cnt_0 (fun i _ => rfl)
  have eU : cq_A (cq_u (fun _ => 0) (1, fun _ => 0, fun _ => 0, fun _ => 0, fun _ => 0, fun _ => false)) = fun _ => 0 := by
    funext q
    exact congrArg nI (u0 q)
  have eH : cq_A (cq_h (1, fun _ => 0, fun _ => 0, fun _ => 0, fun _ => 0, fun _ => false)) = fun _ => 0 := by
    funext q
    exact congrArg nI (cq_cnt_0 (fun i _ => rfl))
  have hcX : ∀ post : Int32 → Prop, post (nI c) → wpX_clampToUnits post () (nI (1 + a)) := fun post h => hc post h
  have hlX : ∀ post : Int32 → Prop, post (nI l) → wpX_clampToUnits post () (nI (1 + b)) := fun post h => hl post h
  have hI : cq_In (128 * 2) c l 1 (fun _ => 0) (cq_up (fun _ => 0) 0 c) (cq_up (fun _ => 0) 0 c) (1, fun _ => 0, fun _ => 0, fun _ => 0, fun _ => 0, fun _ => false) := by
    refine ⟨⟨⟨c1, c2, l2, by omega, by omega⟩, fun q h1 h2 => by omega, fun q => ?_, fun q => ?_, cq_up_s _ _ _⟩, ⟨⟨by decide, by decide⟩, fun j => Nat.zero_le _, fun j _ => rfl, fun i hi => absurd hi (show ¬ (false = true) by decide)⟩, ⟨fun q _ => by rw [u0]; exact Nat.zero_le _, fun i hi => absurd hi (show ¬ (false = true) by decide), fun i j hi => absurd hi (show ¬ (false = true) by decide)⟩, ⟨fun q _ => Nat.le_refl _, cq_up_s _ _ _, fun q _ => Nat.zero_le _⟩⟩
    · show (if q = 0 then c else 0) ≤ 64
      split <;> omega
    · show (if q = 0 then c else 0) ≤ 64
      split <;> omega
  have key := cq_l_45 (post := fun r => r = 1) (xs := xs) (kc := 1 + 11) (ks := 15 + 416) hL rfl L 2 (L + 1) _ _ _ _ _ (fun _ => 0) 0 0 (by omega) (by omega) (by omega) hI rfl (Or.inl rfl)
  rw [eC, eU, eH] at key
  unfold wpX_init
  refine ⟨by decide, by decide, by decide, by decide, by decide, by decide, by decide, by decide, by decide, by decide, by decide, by decide, by decide, by decide, by decide, by decide, by decide, by decide, by decide, by decide, by decide, by decide, ?_⟩
  refine hcX _ (hlX _ (nm_r eP (nm_r eG (nm_r eG (Exists.intro (L + 1) ?_)))))
  rw [← ec]
  exact key
