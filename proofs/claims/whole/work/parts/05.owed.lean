/-- the weights of both sides are one function; the class holds the 36 tilings -/
def i_Rel (k : Nat) (u : SX) (v : SY) : Prop := u.1 = v.1 ∧ dm_Tl u.2.2
theorem i_up {k : Nat} {u : SX} {v : SY} (h : i_Rel k u v) : i_Rel (k + 3) u v := h
theorem i_vc0 : wpX_init (fun u => wpY_init (fun v => i_Rel 0 u v)) := by
  unfold wpX_init
  refine dm_xe ?_
  dsimp only
  refine dm_xf (fun tl hT => ?_)
  exact dm_yi ⟨rfl, hT⟩
theorem i_vc_weight {k : Nat} {u : SX} {v : SY} (I : i_Rel k u v) (hk : k + 3 ≤ 1536) (v1 : Int32) (v2 : Int32) : wpX_weight (fun r u' => wpY_weight (fun r' v' => r' = r ∧ i_Rel (k + 3) u' v') v v1 v2) u v1 v2 := by
  obtain ⟨w, t, tl⟩ := u
  obtain ⟨w', o⟩ := v
  obtain ⟨ew, hT⟩ := I
  change w = w' at ew
  subst ew
  unfold wpX_weight wpY_weight
  dsimp only
  rcases pk_ix v1 (n := 24) (by decide) with h | h | ⟨j, hj, rfl⟩
  · exact dm_plN (Or.inl h) (br_t rfl (dm_bdN (Or.inl h) (br_f (by decide) ⟨rfl, rfl, hT⟩)))
  · exact dm_plN (Or.inr h) (br_t rfl (dm_bdN (Or.inr h) (br_f (by decide) ⟨rfl, rfl, hT⟩)))
  · refine dm_plY hj (br_f (by decide) ?_)
    rcases dm_wt v2 with h | ⟨h0, h4, h4'⟩
    · exact dm_wtN h (br_t rfl (dm_bdY hj (br_t rfl (dm_ywN h ⟨rfl, rfl, hT⟩))))
    · have hi : vp_in (nI j) 24 := vp_in_nI hj (by decide)
      exact dm_wtY h0 h4 (br_f (by decide) ⟨hi, nm_e ⟨hi, nm_e (dm_bdY hj (br_t rfl (br_f h0 (br_t h4' ⟨hi, nm_e ⟨hi, nm_e ⟨rfl, rfl, hT⟩⟩⟩))))⟩⟩)
theorem i_vc_all {k : Nat} {u : SX} {v : SY} (I : i_Rel k u v) (hk : k + 3 ≤ 1536) (v1 : Int32) : wpX_all (fun r u' => wpY_all (fun r' v' => r' = r ∧ i_Rel (k + 3) u' v') v v1) u v1 := by
  obtain ⟨w, t, tl⟩ := u
  obtain ⟨w', o⟩ := v
  obtain ⟨ew, hT⟩ := I
  change w = w' at ew
  subst ew
  unfold wpX_all wpY_all
  dsimp only
  rcases dm_wt v1 with h | ⟨h0, h4, h4'⟩
  · exact dm_wtN h (br_t rfl (dm_ywN h ⟨rfl, rfl, hT⟩))
  · exact dm_wtY h0 h4 (br_f (by decide) (dm_xe (br_f h0 (br_t h4' (dm_ye ⟨rfl, rfl, hT⟩)))))
theorem i_vc_turn {k : Nat} {u : SX} {v : SY} (I : i_Rel k u v) (hk : k + 3 ≤ 1536) : wpX_turn (fun u' => wpY_turn (fun v' => i_Rel (k + 3) u' v') v) u := by
  obtain ⟨w, t, tl⟩ := u
  obtain ⟨w', o⟩ := v
  obtain ⟨ew, hT⟩ := I
  change w = w' at ew
  subst ew
  exact dm_xu (fun t' => dm_yu (fun o' => ⟨rfl, hT⟩))
theorem i_vc_force {k : Nat} {u : SX} {v : SY} (I : i_Rel k u v) (hk : k + 3 ≤ 1536) (v1 : Int32) (v2 : Int32) : wpX_force (fun r u' => wpY_force (fun r' v' => r' = r ∧ i_Rel (k + 3) u' v') v v1 v2) u v1 v2 := by
  obtain ⟨w, t, tl⟩ := u
  obtain ⟨w', o⟩ := v
  obtain ⟨ew, hT⟩ := I
  change w = w' at ew
  subst ew
  unfold wpX_force wpY_force
  dsimp only
  rcases pk_ix v2 (n := 24) (by decide) with h | h | ⟨j, hj, rfl⟩
  · exact dm_plN (Or.inl h) (br_t rfl (dm_bdN (Or.inl h) (br_f (by decide) ⟨rfl, rfl, hT⟩)))
  · exact dm_plN (Or.inr h) (br_t rfl (dm_bdN (Or.inr h) (br_f (by decide) ⟨rfl, rfl, hT⟩)))
  · refine dm_plY hj (br_f (by decide) ?_)
    rcases pk_ix v1 (n := 16) (by decide) with h | h | ⟨s, hs, rfl⟩
    · exact br_t h (br_t rfl (dm_bdY hj (br_t rfl (br_t h ⟨rfl, rfl, hT⟩))))
    · have h0 : ¬ v1 < 0 := fun z => Int32.not_lt.mpr (Int32.le_trans (by decide) h) z
      have h15 : 15 < v1 := Int32.lt_of_lt_of_le (by decide) h
      exact br_f h0 (br_t h (br_t rfl (dm_bdY hj (br_t rfl (br_f h0 (br_t h15 ⟨rfl, rfl, hT⟩))))))
    · have h0 : ¬ nI s < 0 := nI_pos (by omega)
      have h15 : ¬ (15 : Int32) < nI s := nI_nlt (b := s) (a := 15) (by omega) (by decide)
      refine br_f h0 (br_f (nI_ge (b := 16) hs (by decide)) (br_f (by decide) (dm_cvw ?_)))
      by_cases c : dm_cv (nI j) (nI s) = 0
      · exact br_t c (dm_bdY hj (br_t rfl (br_f h0 (br_f h15 (dm_yvw (by rw [dm_H1 j hj s hs]; exact br_t c ⟨rfl, rfl, hT⟩))))))
      · exact br_f c (dm_xo (dm_bdY hj (br_t rfl (br_f h0 (br_f h15 (dm_yvw (by rw [dm_H1 j hj s hs]; exact br_f c (dm_yo hs ⟨rfl, rfl, hT⟩))))))))
theorem i_vc_weightOf {k : Nat} {u : SX} {v : SY} (I : i_Rel k u v) (hk : k + 3 ≤ 1536) (v1 : Int32) : wpX_weightOf (fun r => wpY_weightOf (fun r' => r' = r ∧ i_Rel (k + 3) u v) v v1) u v1 := by
  obtain ⟨w, t, tl⟩ := u
  obtain ⟨w', o⟩ := v
  obtain ⟨ew, hT⟩ := I
  change w = w' at ew
  subst ew
  unfold wpX_weightOf wpY_weightOf
  dsimp only
  rcases pk_ix v1 (n := 24) (by decide) with h | h | ⟨j, hj, rfl⟩
  · exact dm_plN (Or.inl h) (br_t rfl (dm_bdN (Or.inl h) (br_f (by decide) ⟨rfl, rfl, hT⟩)))
  · exact dm_plN (Or.inr h) (br_t rfl (dm_bdN (Or.inr h) (br_f (by decide) ⟨rfl, rfl, hT⟩)))
  · exact dm_plY hj (br_f (by decide) ⟨vp_in_nI hj (by decide), dm_bdY hj (br_t rfl ⟨vp_in_nI hj (by decide), rfl, rfl, hT⟩)⟩)
theorem i_vc_total {k : Nat} {u : SX} {v : SY} (I : i_Rel k u v) (hk : k + 3 ≤ 1536) : wpX_total (fun r => wpY_total (fun r' => r' = r ∧ i_Rel (k + 3) u v) v) u := by
  obtain ⟨w, t, tl⟩ := u
  obtain ⟨w', o⟩ := v
  obtain ⟨ew, hT⟩ := I
  change w = w' at ew
  subst ew
  unfold wpX_total wpY_total
  dsimp only
  exact dm_xs hT (dm_ys ⟨rfl, rfl, hT⟩)
theorem i_vc_totalWith {k : Nat} {u : SX} {v : SY} (I : i_Rel k u v) (hk : k + 3 ≤ 1536) (v1 : Int32) : wpX_totalWith (fun r => wpY_totalWith (fun r' => r' = r ∧ i_Rel (k + 3) u v) v v1) u v1 := by
  obtain ⟨w, t, tl⟩ := u
  obtain ⟨w', o⟩ := v
  obtain ⟨ew, hT⟩ := I
  change w = w' at ew
  subst ew
  unfold wpX_totalWith wpY_totalWith
  dsimp only
  rcases pk_ix v1 (n := 24) (by decide) with h | h | ⟨j, hj, rfl⟩
  · exact dm_plN (Or.inl h) (br_t rfl (dm_bdN (Or.inl h) (br_f (by decide) ⟨rfl, rfl, hT⟩)))
  · exact dm_plN (Or.inr h) (br_t rfl (dm_bdN (Or.inr h) (br_f (by decide) ⟨rfl, rfl, hT⟩)))
  · exact dm_plY hj (br_f (by decide) (dm_xs hT (dm_bdY hj (br_t rfl (dm_ys ⟨rfl, rfl, hT⟩)))))
theorem i_vc_totalWithBoth {k : Nat} {u : SX} {v : SY} (I : i_Rel k u v) (hk : k + 3 ≤ 1536) (v1 : Int32) (v2 : Int32) : wpX_totalWithBoth (fun r => wpY_totalWithBoth (fun r' => r' = r ∧ i_Rel (k + 3) u v) v v1 v2) u v1 v2 := by
  obtain ⟨w, t, tl⟩ := u
  obtain ⟨w', o⟩ := v
  obtain ⟨ew, hT⟩ := I
  change w = w' at ew
  subst ew
  unfold wpX_totalWithBoth wpY_totalWithBoth
  dsimp only
  rcases pk_ix v1 (n := 24) (by decide) with h | h | ⟨j, hj, rfl⟩
  · exact dm_plN (Or.inl h) (br_t rfl (dm_bdN (Or.inl h) (br_f (by decide) ⟨rfl, rfl, hT⟩)))
  · exact dm_plN (Or.inr h) (br_t rfl (dm_bdN (Or.inr h) (br_f (by decide) ⟨rfl, rfl, hT⟩)))
  · refine dm_plY hj (br_f (by decide) ?_)
    rcases pk_ix v2 (n := 24) (by decide) with h | h | ⟨i, hi, rfl⟩
    · exact dm_plN (Or.inl h) (br_t rfl (dm_bdY hj (br_t rfl (dm_bdN (Or.inl h) (br_f (by decide) ⟨rfl, rfl, hT⟩)))))
    · exact dm_plN (Or.inr h) (br_t rfl (dm_bdY hj (br_t rfl (dm_bdN (Or.inr h) (br_f (by decide) ⟨rfl, rfl, hT⟩)))))
    · exact dm_plY hi (br_f (by decide) (dm_xs hT (dm_bdY hj (br_t rfl (dm_bdY hi (br_t rfl (dm_ys ⟨rfl, rfl, hT⟩)))))))
theorem i_vc_possible {k : Nat} {u : SX} {v : SY} (I : i_Rel k u v) (hk : k + 3 ≤ 1536) : wpX_possible (fun r => wpY_possible (fun r' => r' = r ∧ i_Rel (k + 3) u v) v) u := by
  obtain ⟨w, t, tl⟩ := u
  obtain ⟨w', o⟩ := v
  obtain ⟨ew, hT⟩ := I
  change w = w' at ew
  subst ew
  exact dm_xp hT (dm_yp ⟨rfl, rfl, hT⟩)
theorem i_vc_canUse {k : Nat} {u : SX} {v : SY} (I : i_Rel k u v) (hk : k + 3 ≤ 1536) (v1 : Int32) : wpX_canUse (fun r => wpY_canUse (fun r' => r' = r ∧ i_Rel (k + 3) u v) v v1) u v1 := by
  obtain ⟨w, t, tl⟩ := u
  obtain ⟨w', o⟩ := v
  obtain ⟨ew, hT⟩ := I
  change w = w' at ew
  subst ew
  unfold wpX_canUse wpY_canUse
  dsimp only
  rcases pk_ix v1 (n := 24) (by decide) with h | h | ⟨j, hj, rfl⟩
  · exact dm_plN (Or.inl h) (br_t rfl (dm_bdN (Or.inl h) (br_f (by decide) ⟨rfl, rfl, hT⟩)))
  · exact dm_plN (Or.inr h) (br_t rfl (dm_bdN (Or.inr h) (br_f (by decide) ⟨rfl, rfl, hT⟩)))
  · exact dm_plY hj (br_f (by decide) (dm_xs hT (br_c (fun e => dm_bdY hj (br_t rfl (dm_ys (br_t e ⟨rfl, rfl, hT⟩)))) (fun e => dm_bdY hj (br_t rfl (dm_ys (br_f e ⟨rfl, rfl, hT⟩)))))))
theorem i_vc_settled {k : Nat} {u : SX} {v : SY} (I : i_Rel k u v) (hk : k + 3 ≤ 1536) : wpX_settled (fun r => wpY_settled (fun r' => r' = r ∧ i_Rel (k + 3) u v) v) u := by
  obtain ⟨w, t, tl⟩ := u
  obtain ⟨w', o⟩ := v
  obtain ⟨ew, hT⟩ := I
  change w = w' at ew
  subst ew
  exact dm_xt hT (dm_yt ⟨rfl, rfl, hT⟩)
theorem i_vc_acrossTotal {k : Nat} {u : SX} {v : SY} (I : i_Rel k u v) (hk : k + 3 ≤ 1536) : wpX_acrossTotal (fun r => wpY_acrossTotal (fun r' => r' = r ∧ i_Rel (k + 3) u v) v) u := by
  obtain ⟨w, t, tl⟩ := u
  obtain ⟨w', o⟩ := v
  obtain ⟨ew, hT⟩ := I
  change w = w' at ew
  subst ew
  exact dm_xa hT (dm_ya ⟨rfl, rfl, hT⟩)
