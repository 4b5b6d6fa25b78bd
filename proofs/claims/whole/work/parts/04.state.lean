-- all weights at once
def dm_ug (x : Int32) (a : Nat → Int32) (i : Nat) : Nat → Int32 := upd a i x
def dm_U (x : Int32) (w : Nat → Int32) : Nat → Int32 := dm_fold (dm_ug x) 24 0 w
theorem dm_xe {post : SX → Prop} {w t tl : Nat → Int32} {x : Int32} (h : post (dm_U x w, t, tl)) : wpX_setEveryWeight post (w, t, tl) x :=
  dm_loop0 (fun n i s => wX_setEveryWeight_2 post x n (nI i) s t tl) (dm_ug x) 24 (fun s => post (s, t, tl)) (fun n s hF => br_t (nI_le (Nat.le_refl 24) (by decide)) hF) (fun n i s hi hW => br_f (nI_ge (b := 24) hi (by decide)) ⟨vp_in_nI hi (by decide), nm_r (e' := upd s i x) (by rw [nI_clamp (by omega)]) (nm_r (nI_1 i) hW)⟩) w h
theorem dm_ye {post : Int32 → SY → Prop} {w o : Nat → Int32} {x : Int32} (h : post 0 (dm_U x w, o)) : ∃ n, wY_all_14 post x n 0 w o :=
  dm_loop0 (fun n i s => wY_all_14 post x n (nI i) s o) (dm_ug x) 24 (fun s => post 0 (s, o)) (fun n s hF => br_t (nI_le (Nat.le_refl 24) (by decide)) hF) (fun n i s hi hW => br_f (nI_ge (b := 24) hi (by decide)) ⟨vp_in_nI hi (by decide), nm_r (e' := upd s i x) (by rw [nI_clamp (by omega)]) (nm_r (nI_1 i) hW)⟩) w h
theorem dm_yi {post : SY → Prop} (h : post (dm_U 1 (fun _ => 0), (fun _ => 0))) : wpY_init post :=
  dm_loop0 (fun n i s => wY_init_22 post n (nI i) s (fun _ => 0)) (dm_ug 1) 24 (fun s => post (s, (fun _ => 0))) (fun n s hF => br_t (nI_le (Nat.le_refl 24) (by decide)) hF) (fun n i s hi hW => br_f (nI_ge (b := 24) hi (by decide)) ⟨vp_in_nI hi (by decide), nm_r (e' := upd s i 1) (by rw [nI_clamp (by omega)]) (nm_r (nI_1 i) hW)⟩) (fun _ => 0) h
-- the class finds the tilings
theorem dm_ft {post : SX → Prop} {w t : Nat → Int32} (h : ∀ tl, dm_Tl tl → post (w, t, tl)) : ∀ (d c : Nat) (tl : Nat → Int32), c + d = 256 → (∀ j, j < dm_cnt c → tl j = dm_L j) → wX_findTilings_4 post (d + 1) (nI (dm_cnt c)) (nI c) w t tl := by
  intro d
  induction d with
  | zero =>
    intro c tl e hI
    have e1 : c = 256 := by omega
    subst e1
    rw [dm_F5] at hI
    exact br_t (nI_le (Nat.le_refl 256) (by decide)) (h tl hI)
  | succ d ih =>
    intro c tl e hI
    have le := dm_F4 c (by omega)
    refine br_f (nI_ge (b := 256) (by omega) (by decide)) ?_
    by_cases k : 36 ≤ dm_cnt c
    · exact br_t (nI_le k (by omega)) (h tl (fun j hj => hI j (by omega)))
    · refine br_f (nI_ge (b := 36) (by omega) (by decide)) (dm_tx (by omega) ?_)
      by_cases z : dm_T c = 0
      · have ec : dm_cnt (c + 1) = dm_cnt c := if_pos z
        have q := ih (c + 1) tl (by omega) (by rw [ec]; exact hI)
        rw [ec] at q
        exact br_t z (nm_r (nI_1 c) q)
      · have ec : dm_cnt (c + 1) = dm_cnt c + 1 := if_neg z
        have q := ih (c + 1) (upd tl (dm_cnt c) (dm_T c)) (by omega) (by
          rw [ec]
          intro j hj
          by_cases ej : j = dm_cnt c
          · subst ej; rw [pk_us]; exact (dm_Lc (by omega) z).symm
          · rw [pk_un ej]; exact hI j (by omega))
        rw [ec] at q
        exact br_f z ⟨vp_in_nI (by omega) (by decide), nm_r (e' := upd tl (dm_cnt c) (dm_T c)) (by rw [nI_clamp (by omega)]) (nm_r (nI_1 (dm_cnt c)) (nm_r (nI_1 c) q))⟩
theorem dm_xf {post : SX → Prop} {w t tl : Nat → Int32} (h : ∀ tl, dm_Tl tl → post (w, t, tl)) : wpX_findTilings post (w, t, tl) :=
  ⟨257, dm_ft h 256 0 tl rfl (fun j hj => absurd hj (Nat.not_lt_zero j))⟩
-- turn
def dm_sg (i : Nat) : Nat := if 12 ≤ i then ((i - 12) % 4) * 3 + (2 - (i - 12) / 4) else 12 + (i % 3) * 4 + (3 - i / 3)
theorem dm_G1 : ∀ i, i < 24 → (12 : Int32) ≤ nI i → (((nI i - 12) - (nI i - 12) / 4 * 4) * 3) + (2 - (nI i - 12) / 4) = nI (dm_sg i) := by decide +kernel
theorem dm_G2 : ∀ i, i < 24 → ¬ (12 : Int32) ≤ nI i → (12 + ((nI i - nI i / 3 * 3) * 4)) + (3 - nI i / 3) = nI (dm_sg i) := by decide +kernel
theorem dm_G3 : ∀ i, i < 24 → (12 : Int32) ≤ nI i → ((((nI i - 12) - (nI i - 12) / 4 * 4) * 3) + 2) - ((nI i - 12) / 4) = nI (dm_sg i) := by decide +kernel
theorem dm_G4 : ∀ i, i < 24 → ¬ (12 : Int32) ≤ nI i → ((12 + ((nI i - nI i / 3 * 3) * 4)) + 3) - (nI i / 3) = nI (dm_sg i) := by decide +kernel
theorem dm_G5 : ∀ i, i < 24 → dm_sg i < 24 := by decide +kernel
theorem dm_G6 : ∀ j, j < 24 → dm_sg (dm_sg (dm_sg (dm_sg j))) = j := by decide +kernel
theorem dm_pt {post : Int32 → Prop} {i : Nat} (hi : i < 24) (h : post (nI (dm_sg i))) : wpX_placeAfterTurn post (nI i) :=
  br_c (fun e => ⟨by decide, nm_e ⟨by decide, nm_e (by rw [dm_G1 i hi e]; exact h)⟩⟩) (fun e => ⟨by decide, nm_e ⟨by decide, nm_e (by rw [dm_G2 i hi e]; exact h)⟩⟩)
def dm_vg (f : Nat → Int32) (a : Nat → Int32) (i : Nat) : Nat → Int32 := upd a i (f i)
def dm_rg (f : Nat → Int32) (a : Nat → Int32) (i : Nat) : Nat → Int32 := upd a (dm_sg i) (f i)
def dm_R (w : Nat → Int32) : Nat → Int32 := dm_fold (dm_rg w) 24 0 w
theorem dm_vgA (f : Nat → Int32) : ∀ (d i : Nat) (a : Nat → Int32) (j : Nat), dm_fold (dm_vg f) d i a j = if i ≤ j ∧ j < i + d then f j else a j := by
  intro d
  induction d with
  | zero =>
    intro i a j
    rw [if_neg (by omega)]
    rfl
  | succ d ih =>
    intro i a j
    show dm_fold (dm_vg f) d (i + 1) (upd a i (f i)) j = _
    rw [ih]
    by_cases ej : j = i
    · subst ej
      rw [if_neg (by omega), if_pos (by omega), pk_us]
    · rw [pk_un ej]
      by_cases k : i + 1 ≤ j ∧ j < i + 1 + d
      · rw [if_pos k, if_pos (by omega)]
      · rw [if_neg k, if_neg (by omega)]
theorem dm_rgC (f : Nat → Int32) (j : Nat) : ∀ (d i : Nat) (a b : Nat → Int32), (a j = b j ∨ ∃ k, i ≤ k ∧ k < i + d ∧ dm_sg k = j) → dm_fold (dm_rg f) d i a j = dm_fold (dm_rg f) d i b j := by
  intro d
  induction d with
  | zero =>
    intro i a b h
    rcases h with h | ⟨k, h1, h2, _⟩
    · exact h
    · omega
  | succ d ih =>
    intro i a b h
    refine ih (i + 1) (upd a (dm_sg i) (f i)) (upd b (dm_sg i) (f i)) ?_
    by_cases e : j = dm_sg i
    · subst e
      exact Or.inl (by rw [pk_us, pk_us])
    · rcases h with h | ⟨k, h1, h2, h3⟩
      · exact Or.inl (by rw [pk_un e, pk_un e]; exact h)
      · refine Or.inr ⟨k, ?_, by omega, h3⟩
        by_cases ek : k = i
        · subst ek; exact absurd h3.symm e
        · omega
theorem dm_rgD (f : Nat → Int32) {j : Nat} (hj : 24 ≤ j) : ∀ (d i : Nat) (a : Nat → Int32), i + d ≤ 24 → dm_fold (dm_rg f) d i a j = a j := by
  intro d
  induction d with
  | zero => intro i a _; rfl
  | succ d ih =>
    intro i a h
    have q := dm_G5 i (by omega)
    have e := ih (i + 1) (upd a (dm_sg i) (f i)) (by omega)
    rw [pk_un (by omega)] at e
    exact e
theorem dm_RX (w t : Nat → Int32) : dm_fold (dm_vg (dm_fold (dm_rg w) 24 0 t)) 24 0 w = dm_R w := by
  funext j
  rw [dm_vgA]
  by_cases h : j < 24
  · rw [if_pos (by omega)]
    exact dm_rgC w j 24 0 t w (Or.inr ⟨dm_sg (dm_sg (dm_sg j)), Nat.zero_le _, by have := dm_G5 _ (dm_G5 _ (dm_G5 j h)); omega, dm_G6 j h⟩)
  · rw [if_neg (by omega)]
    exact (dm_rgD w (by omega) 24 0 w (by omega)).symm
theorem dm_RY (w o : Nat → Int32) : dm_fold (dm_rg (dm_fold (dm_vg w) 24 0 o)) 24 0 w = dm_R w :=
  dm_cong _ _ 24 (fun s i hi => by
    unfold dm_rg
    rw [dm_vgA, if_pos (by omega)]) 24 0 w (by decide)
theorem dm_xu {post : SX → Prop} {w t tl : Nat → Int32} (h : ∀ t', post (dm_R w, t', tl)) : wpX_turn post (w, t, tl) := by
  refine dm_loop0 (fun n i s => wX_turn_2 post n (nI i) w s tl) (dm_rg w) 24 (fun s => ∃ n, wX_turn_33 post n 0 w s tl) (fun n s hF => br_t (nI_le (Nat.le_refl 24) (by decide)) hF) (fun n i s hi hW => br_f (nI_ge (b := 24) hi (by decide)) (dm_pt hi ⟨vp_in_nI hi (by decide), vp_in_nI (dm_G5 i hi) (by decide), nm_r (e' := upd s (dm_sg i) (w i)) ?_ (nm_r (nI_1 i) hW)⟩)) t ?_
  · have q := dm_G5 i hi
    rw [nI_clamp (n := dm_sg i) (by omega), nI_clamp (n := i) (by omega)]
  · generalize et : dm_fold (dm_rg w) 24 0 t = t'
    refine dm_loop0 (fun n i s => wX_turn_33 post n (nI i) s t' tl) (dm_vg t') 24 (fun s => post (s, t', tl)) (fun n s hF => br_t (nI_le (Nat.le_refl 24) (by decide)) hF) (fun n i s hi hW => br_f (nI_ge (b := 24) hi (by decide)) ⟨vp_in_nI hi (by decide), vp_in_nI hi (by decide), nm_r (e' := upd s i (t' i)) (by rw [nI_clamp (by omega)]) (nm_r (nI_1 i) hW)⟩) w ?_
    have e := dm_RX w t
    rw [et] at e
    rw [e]
    exact h t'
theorem dm_yu {post : SY → Prop} {w o : Nat → Int32} (h : ∀ o', post (dm_R w, o')) : wpY_turn post (w, o) := by
  refine dm_loop0 (fun n i s => wY_turn_2 post n (nI i) w s) (dm_vg w) 24 (fun s => ∃ n, wY_turn_28 post n 0 w s) (fun n s hF => br_t (nI_le (Nat.le_refl 24) (by decide)) hF) (fun n i s hi hW => br_f (nI_ge (b := 24) hi (by decide)) ⟨vp_in_nI hi (by decide), vp_in_nI hi (by decide), nm_r (e' := upd s i (w i)) (by rw [nI_clamp (by omega)]) (nm_r (nI_1 i) hW)⟩) o ?_
  generalize eo : dm_fold (dm_vg w) 24 0 o = o'
  refine dm_loop0 (fun n i s => wY_turn_28 post n (nI i) s o') (dm_rg o') 24 (fun s => post (s, o')) (fun n s hF => br_t (nI_le (Nat.le_refl 24) (by decide)) hF) (fun n i s hi hW => br_f (nI_ge (b := 24) hi (by decide)) ?_) w ?_
  · have q := dm_G5 i hi
    refine br_c (fun e => ⟨by decide, by decide, vp_in_nI hi (by decide), ?_⟩) (fun e => ⟨by decide, by decide, vp_in_nI hi (by decide), ?_⟩)
    · rw [dm_G3 i hi e, nI_clamp (n := dm_sg i) (by omega), nI_clamp (n := i) (by omega)]
      exact ⟨vp_in_nI q (by decide), nm_e (nm_r (nI_1 i) hW)⟩
    · rw [dm_G4 i hi e, nI_clamp (n := dm_sg i) (by omega), nI_clamp (n := i) (by omega)]
      exact ⟨vp_in_nI q (by decide), nm_e (nm_r (nI_1 i) hW)⟩
  · have e := dm_RY w o
    rw [eo] at e
    rw [e]
    exact h o'
-- force
def dm_cv (p s : Int32) : Int32 := dm_con (dm_sq p) s
theorem dm_cvw {post : Int32 → Prop} {p s : Int32} (h : post (dm_cv p s)) : wpX_covers post p s := by
  unfold wpX_covers
  refine dm_sqw ?_
  exact br_c (fun e => ⟨rfl, (dm_ite (P := post) h).1 e⟩) (fun e => ⟨rfl, (dm_ite (P := post) h).2 e⟩)
def dm_fi (p : Int32) : Int32 := if 12 ≤ p then p - 12 else ((p / 3) * 4) + (p - p / 3 * 3)
def dm_yv (p s : Int32) : Int32 := if s = dm_fi p then 1 else if 12 ≤ p then (if s = dm_fi p + 4 then 1 else 0) else (if s = dm_fi p + 1 then 1 else 0)
theorem dm_fiw {post : Int32 → Prop} {w o : Nat → Int32} {p : Int32} (h : post (dm_fi p)) : wpY_first post (w, o) p :=
  br_c (fun e => (dm_ite (P := post) h).1 e) (fun e => ⟨by decide, by decide, (dm_ite (P := post) h).2 e⟩)
theorem dm_yvw {post : Int32 → Prop} {w o : Nat → Int32} {p s : Int32} (h : post (dm_yv p s)) : wpY_covers post (w, o) p s := by
  unfold wpY_covers
  dsimp only
  refine dm_fiw ?_
  refine br_c (fun e => (dm_ite (P := post) h).1 e) (fun e => ?_)
  have h2 := (dm_ite (P := post) h).2 e
  exact br_c (fun e2 => dm_ite (P := post) ((dm_ite (P := post) h2).1 e2)) (fun e2 => dm_ite (P := post) ((dm_ite (P := post) h2).2 e2))
theorem dm_H1 : ∀ i, i < 24 → ∀ s, s < 16 → dm_yv (nI i) (nI s) = dm_cv (nI i) (nI s) := by decide +kernel
def dm_fg (s pl : Int32) (a : Int32 × (Nat → Int32)) (i : Nat) : Int32 × (Nat → Int32) := if nI i = pl then a else if a.2 i = 0 then a else if dm_cv (nI i) s = 0 then a else (a.1 + 1, upd a.2 i 0)
theorem dm_fg1 {s pl : Int32} {a : Int32 × (Nat → Int32)} {i : Nat} (h : nI i = pl) : dm_fg s pl a i = a := if_pos h
theorem dm_fg2 {s pl : Int32} {a : Int32 × (Nat → Int32)} {i : Nat} (h : a.2 i = 0) : dm_fg s pl a i = a := by
  unfold dm_fg
  rw [if_pos h, ite_self]
theorem dm_fg3 {s pl : Int32} {a : Int32 × (Nat → Int32)} {i : Nat} (h : dm_cv (nI i) s = 0) : dm_fg s pl a i = a := by
  unfold dm_fg
  rw [if_pos h, ite_self, ite_self]
theorem dm_fg4 {s pl : Int32} {a : Int32 × (Nat → Int32)} {i : Nat} (h1 : ¬ nI i = pl) (h2 : ¬ a.2 i = 0) (h3 : ¬ dm_cv (nI i) s = 0) : dm_fg s pl a i = (a.1 + 1, upd a.2 i 0) := by
  unfold dm_fg
  rw [if_neg h1, if_neg h2, if_neg h3]
theorem dm_xo {post : Int32 → SX → Prop} {w t tl : Nat → Int32} {s pl : Int32} (h : post (dm_fold (dm_fg s pl) 24 0 (0, w)).1 ((dm_fold (dm_fg s pl) 24 0 (0, w)).2, t, tl)) : ∃ n, wX_force_29 post s pl n 0 0 w t tl := by
  refine dm_loop0 (fun n i a => wX_force_29 post s pl n a.1 (nI i) a.2 t tl) (dm_fg s pl) 24 (fun a => post a.1 (a.2, t, tl)) (fun n a hF => br_t (nI_le (Nat.le_refl 24) (by decide)) hF) (fun n i a hi hW => br_f (nI_ge (b := 24) hi (by decide)) (br_c (fun e1 => nm_r (nI_1 i) ?_) (fun e1 => ⟨vp_in_nI hi (by decide), ?_⟩))) (0, w) h
  · rw [dm_fg1 e1] at hW; exact hW
  · rw [nI_clamp (n := i) (by omega)]
    refine br_c (fun e2 => nm_r (nI_1 i) ?_) (fun e2 => dm_cvw (br_c (fun e3 => nm_r (nI_1 i) ?_) (fun e3 => ⟨vp_in_nI hi (by decide), nm_e (nm_e (nm_r (nI_1 i) ?_))⟩)))
    · rw [dm_fg2 e2] at hW; exact hW
    · rw [dm_fg3 e3] at hW; exact hW
    · rw [dm_fg4 e1 e2 e3] at hW; exact hW
theorem dm_yo {post : Int32 → SY → Prop} {w o : Nat → Int32} {pl : Int32} {s : Nat} (hs : s < 16) (h : post (dm_fold (dm_fg (nI s) pl) 24 0 (0, w)).1 ((dm_fold (dm_fg (nI s) pl) 24 0 (0, w)).2, o)) : ∃ n, wY_force_34 post (nI s) pl n 0 0 w o := by
  refine dm_loop0 (fun n i a => wY_force_34 post (nI s) pl n a.1 (nI i) a.2 o) (dm_fg (nI s) pl) 24 (fun a => post a.1 (a.2, o)) (fun n a hF => br_t (nI_le (Nat.le_refl 24) (by decide)) hF) (fun n i a hi hW => br_f (nI_ge (b := 24) hi (by decide)) (br_c (fun e1 => nm_r (nI_1 i) ?_) (fun e1 => dm_yvw ?_))) (0, w) h
  · rw [dm_fg1 e1] at hW; exact hW
  · rw [nI_clamp (n := i) (by omega), dm_H1 i hi s hs]
    refine br_c (fun e3 => nm_r (nI_1 i) ?_) (fun e3 => ⟨vp_in_nI hi (by decide), br_c (fun e2 => nm_r (nI_1 i) ?_) (fun e2 => ⟨vp_in_nI hi (by decide), nm_e (nm_e (nm_r (nI_1 i) ?_))⟩)⟩)
    · rw [dm_fg3 e3] at hW; exact hW
    · rw [dm_fg2 e2] at hW; exact hW
    · rw [dm_fg4 e1 e2 e3] at hW; exact hW
