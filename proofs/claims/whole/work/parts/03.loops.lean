-- worth
def dm_wg (w : Nat → Int32) (p : Int32) (a : Int32) (i : Nat) : Int32 := if ((p >>> (nI i &&& 31)) &&& 1) = 1 then a * w i else a
def dm_wo (w : Nat → Int32) (p : Int32) (a : Int32) : Int32 := dm_fold (dm_wg w p) 24 0 a
def dm_wy (w : Nat → Int32) (p : Int32) : Int32 := if p = 0 then dm_wo w p 0 else dm_wo w p 1
theorem dm_wgt {w : Nat → Int32} {p a : Int32} {i : Nat} (h : ((p >>> (nI i &&& 31)) &&& 1) = 1) : dm_wg w p a i = a * w i := if_pos h
theorem dm_wgf {w : Nat → Int32} {p a : Int32} {i : Nat} (h : ¬ ((p >>> (nI i &&& 31)) &&& 1) = 1) : dm_wg w p a i = a := if_neg h
theorem dm_xw {post : Int32 → Prop} {w t tl : Nat → Int32} {p : Int32} (h : post (dm_wo w p 1)) : wpX_worth post (w, t, tl) p := by
  refine dm_loop0 (fun n i s => wX_worth_4 post p w t tl n s (nI i)) (dm_wg w p) 24 post (fun n s hF => br_t (nI_le (Nat.le_refl 24) (by decide)) hF) (fun n i s hi hW => br_f (nI_ge (b := 24) hi (by decide)) ?_) 1 h
  refine dm_conb (fun e => ⟨vp_in_nI hi (by decide), nm_r (e' := s * w i) (by rw [nI_clamp (by omega)]) (nm_r (nI_1 i) ?_)⟩) (fun e => nm_r (nI_1 i) ?_)
  · rw [dm_wgt e] at hW; exact hW
  · rw [dm_wgf e] at hW; exact hW
theorem dm_yw0 {post : Int32 → Prop} {w o : Nat → Int32} {p a : Int32} (h : post (dm_wo w p a)) : ∃ n, wY_worth_12 post p w o n a 0 := by
  refine dm_loop0 (fun n i s => wY_worth_12 post p w o n s (nI i)) (dm_wg w p) 24 post (fun n s hF => br_t (nI_le (Nat.le_refl 24) (by decide)) hF) (fun n i s hi hW => br_f (nI_ge (b := 24) hi (by decide)) ?_) a h
  refine br_c (fun e => ⟨vp_in_nI hi (by decide), nm_r (e' := s * w i) (by rw [nI_clamp (by omega)]) (nm_r (nI_1 i) ?_)⟩) (fun e => nm_r (nI_1 i) ?_)
  · rw [dm_wgt e] at hW; exact hW
  · rw [dm_wgf e] at hW; exact hW
theorem dm_yw {post : Int32 → Prop} {w o : Nat → Int32} {p : Int32} (h : post (dm_wy w p)) : wpY_worth post (w, o) p :=
  br_c (fun e => dm_yw0 ((dm_ite (P := post) h).1 e)) (fun e => dm_yw0 ((dm_ite (P := post) h).2 e))
theorem dm_b0 : ∀ i, i < 24 → ¬ (((0 : Int32) >>> (nI i &&& 31)) &&& 1) = 1 := by decide +kernel
theorem dm_wy0 (w : Nat → Int32) : dm_wy w 0 = 0 := by
  unfold dm_wy dm_wo
  rw [if_pos rfl]
  have h : ∀ d i (s : Int32), i + d ≤ 24 → dm_fold (dm_wg w 0) d i s = s := by
    intro d
    induction d with
    | zero => intro i s _; rfl
    | succ d ih =>
      intro i s hi
      show dm_fold (dm_wg w 0) d (i + 1) (dm_wg w 0 s i) = s
      rw [dm_wgf (dm_b0 i (by omega))]
      exact ih (i + 1) s (by omega)
  exact h 24 0 0 (by decide)
theorem dm_wyp (w : Nat → Int32) {p : Int32} (h : ¬ p = 0) : dm_wy w p = dm_wo w p 1 := if_neg h
-- the class's tilings
def dm_Tl (tl : Nat → Int32) : Prop := ∀ j, j < 36 → tl j = dm_L j
theorem dm_tl {tl : Nat → Int32} (hT : dm_Tl tl) {i : Nat} (hi : i < 36) : tl (nI i).toNatClampNeg = dm_L i := by
  rw [nI_clamp (by omega)]; exact hT i hi
theorem dm_Lc {c : Nat} (hc : c < 256) (z : ¬ dm_T c = 0) : dm_L (dm_cnt c) = dm_T c := (dm_F3 c hc).elim (fun e => absurd e z) (fun e => e)
-- sums
def dm_sX (w : Nat → Int32) (q s : Int32) (j : Nat) : Int32 := if (dm_L j &&& q) = q then s + dm_wo w (dm_L j) 1 else s
def dm_sY (w : Nat → Int32) (q s : Int32) (c : Nat) : Int32 := if (dm_T c &&& q) = q then s + dm_wy w (dm_T c) else s
def dm_S (w : Nat → Int32) (q : Int32) : Int32 := dm_fold (dm_sX w q) 36 0 0
theorem dm_sYX (w : Nat → Int32) (q : Int32) : dm_fold (dm_sY w q) 256 0 0 = dm_S w q :=
  dm_sel (dm_sX w q) (dm_sY w q) (fun s c hc z => by
      unfold dm_sY
      rw [z, dm_wy0, Int32.add_zero]
      exact ite_self s) (fun s c hc z => by
      unfold dm_sY dm_sX
      rw [dm_Lc hc z, dm_wyp w z]) 256 0 0 rfl
theorem dm_xs {post : Int32 → Prop} {w t tl : Nat → Int32} {q : Int32} (hT : dm_Tl tl) (h : post (dm_S w q)) : wpX_sumOfWorths post (w, t, tl) q := by
  refine dm_loop0 (fun n i s => wX_sumOfWorths_4 post q w t tl n s (nI i)) (dm_sX w q) 36 post (fun n s hF => br_t (nI_le (Nat.le_refl 36) (by decide)) hF) (fun n i s hi hW => br_f (nI_ge (b := 36) hi (by decide)) ⟨vp_in_nI hi (by decide), ?_⟩) 0 h
  rw [dm_tl hT hi]
  refine br_c (fun e => ⟨vp_in_nI hi (by decide), dm_xw (nm_e (nm_r (nI_1 i) ?_))⟩) (fun e => nm_r (nI_1 i) ?_)
  · have e2 : dm_sX w q s i = s + dm_wo w (dm_L i) 1 := if_pos e
    rw [e2] at hW; exact hW
  · have e2 : dm_sX w q s i = s := if_neg e
    rw [e2] at hW; exact hW
theorem dm_ys {post : Int32 → Prop} {w o : Nat → Int32} {q : Int32} (h : post (dm_S w q)) : wpY_sumWith post (w, o) q := by
  rw [← dm_sYX] at h
  refine dm_loop0 (fun n i s => wY_sumWith_4 post q w o n s (nI i)) (dm_sY w q) 256 post (fun n s hF => br_t (nI_le (Nat.le_refl 256) (by decide)) hF) (fun n i s hi hW => br_f (nI_ge (b := 256) hi (by decide)) (dm_ty hi ?_)) 0 h
  refine br_c (fun e => dm_yw (nm_e (nm_r (nI_1 i) ?_))) (fun e => nm_r (nI_1 i) ?_)
  · have e2 : dm_sY w q s i = s + dm_wy w (dm_T i) := if_pos e
    rw [e2] at hW; exact hW
  · have e2 : dm_sY w q s i = s := if_neg e
    rw [e2] at hW; exact hW
-- possible
def dm_pX (w : Nat → Int32) (s : Int32) (j : Nat) : Int32 := if dm_wo w (dm_L j) 1 ≤ 0 then s else s + 1
def dm_pY (w : Nat → Int32) (s : Int32) (c : Nat) : Int32 := if dm_wy w (dm_T c) ≤ 0 then s else s + 1
def dm_P (w : Nat → Int32) : Int32 := dm_fold (dm_pX w) 36 0 0
theorem dm_pYX (w : Nat → Int32) : dm_fold (dm_pY w) 256 0 0 = dm_P w :=
  dm_sel (dm_pX w) (dm_pY w) (fun s c hc z => by
      unfold dm_pY
      rw [z, dm_wy0]
      exact if_pos (by decide)) (fun s c hc z => by
      unfold dm_pY dm_pX
      rw [dm_Lc hc z, dm_wyp w z]) 256 0 0 rfl
theorem dm_xp {post : Int32 → Prop} {w t tl : Nat → Int32} (hT : dm_Tl tl) (h : post (dm_P w)) : wpX_possible post (w, t, tl) := by
  refine dm_loop0 (fun n i s => wX_possible_4 post w t tl n s (nI i)) (dm_pX w) 36 post (fun n s hF => br_t (nI_le (Nat.le_refl 36) (by decide)) hF) (fun n i s hi hW => br_f (nI_ge (b := 36) hi (by decide)) ⟨vp_in_nI hi (by decide), ?_⟩) 0 h
  rw [dm_tl hT hi]
  refine dm_xw (br_c (fun e => nm_r (nI_1 i) ?_) (fun e => nm_e (nm_r (nI_1 i) ?_)))
  · have e2 : dm_pX w s i = s := if_pos e
    rw [e2] at hW; exact hW
  · have e2 : dm_pX w s i = s + 1 := if_neg e
    rw [e2] at hW; exact hW
theorem dm_yp {post : Int32 → Prop} {w o : Nat → Int32} (h : post (dm_P w)) : wpY_possible post (w, o) := by
  rw [← dm_pYX] at h
  refine dm_loop0 (fun n i s => wY_possible_4 post w o n s (nI i)) (dm_pY w) 256 post (fun n s hF => br_t (nI_le (Nat.le_refl 256) (by decide)) hF) (fun n i s hi hW => br_f (nI_ge (b := 256) hi (by decide)) (dm_ty hi (dm_yw ?_))) 0 h
  refine br_c (fun e => nm_r (nI_1 i) ?_) (fun e => nm_e (nm_r (nI_1 i) ?_))
  · have e2 : dm_pY w s i = s := if_pos e
    rw [e2] at hW; exact hW
  · have e2 : dm_pY w s i = s + 1 := if_neg e
    rw [e2] at hW; exact hW
-- settled
def dm_cg (p s : Int32) (i : Nat) : Int32 := s + ((p >>> (nI i &&& 31)) &&& 1)
def dm_C (p : Int32) : Int32 := dm_fold (dm_cg p) 24 0 0
theorem dm_bit (y : Int32) (h : ¬ y &&& 1 = 1) : y &&& 1 = 0 := by
  obtain ⟨j, hj, e⟩ := pk_andE y (m := 1) 1 (by decide)
  have h2 : j = 0 ∨ j = 1 := by omega
  rcases h2 with rfl | rfl
  · exact e
  · exact absurd e h
theorem dm_xc {post : Int32 → Prop} {p : Int32} (h : post (dm_C p)) : wpX_countOfPlaces post p := by
  refine dm_loop0 (fun n i s => wX_countOfPlaces_4 post p n s (nI i)) (dm_cg p) 24 post (fun n s hF => br_t (nI_le (Nat.le_refl 24) (by decide)) hF) (fun n i s hi hW => br_f (nI_ge (b := 24) hi (by decide)) ?_) 0 h
  refine dm_conb (fun e => nm_e (nm_r (nI_1 i) ?_)) (fun e => nm_r (nI_1 i) ?_)
  · have e2 : dm_cg p s i = s + 1 := by unfold dm_cg; rw [e]
    rw [e2] at hW; exact hW
  · have e2 : dm_cg p s i = s := by unfold dm_cg; rw [dm_bit _ e, Int32.add_zero]
    rw [e2] at hW; exact hW
theorem dm_yc {post : Int32 → Prop} {w o : Nat → Int32} {p : Int32} (h : post (dm_C p)) : ∃ n, wY_settled_40 post p w o n 0 0 :=
  dm_loop0 (fun n i s => wY_settled_40 post p w o n s (nI i)) (dm_cg p) 24 post (fun n s hF => br_t (nI_le (Nat.le_refl 24) (by decide)) hF) (fun n i s hi hW => br_f (nI_ge (b := 24) hi (by decide)) (nm_e (nm_r (nI_1 i) hW))) 0 h
def dm_tX (w : Nat → Int32) (s : Int32) (j : Nat) : Int32 := if dm_wo w (dm_L j) 1 ≤ 0 then s else s &&& dm_L j
def dm_tY (w : Nat → Int32) (s : Int32) (c : Nat) : Int32 := if dm_wy w (dm_T c) ≤ 0 then s else s &&& dm_T c
def dm_M (w : Nat → Int32) : Int32 := dm_fold (dm_tX w) 36 0 16777215
theorem dm_tYX (w : Nat → Int32) : dm_fold (dm_tY w) 256 0 16777215 = dm_M w :=
  dm_sel (dm_tX w) (dm_tY w) (fun s c hc z => by
      unfold dm_tY
      rw [z, dm_wy0]
      exact if_pos (by decide)) (fun s c hc z => by
      unfold dm_tY dm_tX
      rw [dm_Lc hc z, dm_wyp w z]) 256 0 16777215 rfl
theorem dm_xt {post : Int32 → Prop} {w t tl : Nat → Int32} (hT : dm_Tl tl) (h : post (dm_C (dm_M w))) : wpX_settled post (w, t, tl) := by
  refine dm_loop0 (fun n i s => wX_settled_5 post w t tl n s (nI i)) (dm_tX w) 36 (fun s => post (dm_C s)) (fun n s hF => br_t (nI_le (Nat.le_refl 36) (by decide)) (dm_xc hF)) (fun n i s hi hW => br_f (nI_ge (b := 36) hi (by decide)) ⟨vp_in_nI hi (by decide), ?_⟩) 16777215 h
  rw [dm_tl hT hi]
  refine dm_xw (br_c (fun e => nm_r (nI_1 i) ?_) (fun e => ⟨vp_in_nI hi (by decide), nm_e (nm_r (nI_1 i) ?_)⟩))
  · have e2 : dm_tX w s i = s := if_pos e
    rw [e2] at hW; exact hW
  · have e2 : dm_tX w s i = s &&& dm_L i := if_neg e
    rw [e2] at hW; exact hW
theorem dm_yt {post : Int32 → Prop} {w o : Nat → Int32} (h : post (dm_C (dm_M w))) : wpY_settled post (w, o) := by
  rw [← dm_tYX] at h
  refine dm_loop0 (fun n i s => wY_settled_5 post w o n s (nI i)) (dm_tY w) 256 (fun s => post (dm_C s)) (fun n s hF => br_t (nI_le (Nat.le_refl 256) (by decide)) (dm_yc hF)) (fun n i s hi hW => br_f (nI_ge (b := 256) hi (by decide)) (dm_ty hi (dm_yw ?_))) 16777215 h
  refine br_c (fun e => nm_r (nI_1 i) ?_) (fun e => nm_e (nm_r (nI_1 i) ?_))
  · have e2 : dm_tY w s i = s := if_pos e
    rw [e2] at hW; exact hW
  · have e2 : dm_tY w s i = s &&& dm_T i := if_neg e
    rw [e2] at hW; exact hW
-- acrossTotal
def dm_ag (w : Nat → Int32) (s : Int32) (i : Nat) : Int32 := s + dm_S w ((1 : Int32) <<< (nI i &&& 31))
def dm_A (w : Nat → Int32) : Int32 := dm_fold (dm_ag w) 12 0 0
theorem dm_xa {post : Int32 → Prop} {w t tl : Nat → Int32} (hT : dm_Tl tl) (h : post (dm_A w)) : wpX_acrossTotal post (w, t, tl) :=
  dm_loop0 (fun n i s => wX_acrossTotal_4 post w t tl n s (nI i)) (dm_ag w) 12 post (fun n s hF => br_t (nI_le (Nat.le_refl 12) (by decide)) hF) (fun n i s hi hW => br_f (nI_ge (b := 12) hi (by decide)) (dm_xs hT (nm_e (nm_r (nI_1 i) hW)))) 0 h
theorem dm_ya {post : Int32 → Prop} {w o : Nat → Int32} (h : post (dm_A w)) : wpY_acrossTotal post (w, o) :=
  dm_loop0 (fun n i s => wY_acrossTotal_4 post w o n s (nI i)) (dm_ag w) 12 post (fun n s hF => br_t (nI_le (Nat.le_refl 12) (by decide)) hF) (fun n i s hi hW => br_f (nI_ge (b := 12) hi (by decide)) (dm_ys (nm_e (nm_r (nI_1 i) hW)))) 0 h
