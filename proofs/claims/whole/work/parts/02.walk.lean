theorem dm_conw {post : Int32 → Prop} {p m : Int32} (h : post (dm_con p m)) : wpX_contains post p m := dm_ite (P := post) h
theorem dm_conb {A B : Prop} {p m : Int32} (hb : ((p >>> (m &&& 31)) &&& 1) = 1 → B) (ha : ¬ ((p >>> (m &&& 31)) &&& 1) = 1 → A) : wpX_contains (fun r => (r = 0 → A) ∧ (¬ r = 0 → B)) p m :=
  br_c (fun e => br_f (by decide) (hb e)) (fun e => br_t rfl (ha e))
theorem dm_upw {post : Int32 → Prop} {p : Int32} (h : post (dm_up p)) : wpX_uprightFrom post p := dm_ite (P := post) h
theorem dm_acw {post : Int32 → Prop} {p : Int32} (h : post (dm_ac p)) : wpX_acrossFrom post p :=
  ⟨by decide, nm_e ⟨by decide, nm_e (dm_ite (P := post) h)⟩⟩
theorem dm_sqw {post : Int32 → Prop} {p : Int32} (h : post (dm_sq p)) : wpX_squaresOf post p :=
  br_c (fun e => nm_e ((dm_ite (P := post) h).1 e)) (fun e => ⟨by decide, by decide, nm_e ((dm_ite (P := post) h).2 e)⟩)
theorem dm_X49w {post : Int32 → Prop} {J : Int32 → Int32 → Int32 → Int32 → Option Int32} {J9 : Int32 → Int32 → Int32 → Int32 → Prop} {x1 x2 x3 x4 z : Int32} (HJ : ∀ a b c d, dm_ok post (J a b c d) → J9 a b c d) (h : dm_ok post (dm_X49 J x1 x2 x3 x4 z)) : wX_tilingOfChoices_49 post J9 x1 x2 x3 x4 z :=
  nm_e (dm_br h (fun h => h) (fun h => dm_sqw (dm_br h (fun h => nm_e (nm_e (nm_e (HJ _ _ _ _ h)))) (fun h => h))))
theorem dm_fXw {post : Int32 → Prop} : ∀ (n : Nat) (x1 x2 x3 x4 : Int32), dm_ok post (dm_fX n x1 x2 x3 x4) → wX_tilingOfChoices_9 post n x1 x2 x3 x4 := by
  intro n
  induction n with
  | zero => intro x1 x2 x3 x4 h; exact h
  | succ n ih =>
    intro x1 x2 x3 x4 h
    refine dm_br h (fun h => h) (fun h => dm_conw ?_)
    refine dm_br h (fun h => dm_conw ?_) (fun h => nm_e (ih _ _ _ _ h))
    exact dm_br h (fun h => dm_acw (dm_X49w ih h)) (fun h => dm_upw (dm_X49w ih h))
theorem dm_tx {post : Int32 → Prop} {c : Nat} (hc : c < 256) (h : post (dm_T c)) : wpX_tilingOfChoices post (nI c) :=
  ⟨17, dm_fXw 17 (nI c) 0 0 0 (by rw [dm_F1 c hc]; exact h)⟩
theorem dm_okt {post : Int32 → Prop} {o : Option Int32} {f : Int32 → Option Int32} (h : dm_ok post (dm_then o f)) : dm_ok (fun r => dm_ok post (f r)) o := by
  cases o with
  | none => exact h
  | some r => exact h
theorem dm_fow {post : Int32 → Prop} {w o : Nat → Int32} {x1 : Int32} : ∀ (n : Nat) (x2 : Int32), dm_ok post (dm_fo x1 n x2) → wY_firstOpen_2 post x1 w o n x2 := by
  intro n
  induction n with
  | zero => intro x2 h; exact h
  | succ n ih =>
    intro x2 h
    exact dm_br h (fun h => h) (fun h => dm_br h (fun h => h) (fun h => nm_e (ih _ h)))
theorem dm_Y76w {post : Int32 → Prop} {J : Int32 → Int32 → Int32 → Option Int32} {J7 : Int32 → Int32 → Int32 → Prop} {w o : Nat → Int32} {x1 x2 x3 x4 x5 x6 x7 : Int32} (HJ : ∀ a b c, dm_ok post (J a b c) → J7 a b c) (h : dm_ok post (dm_Y76 J x2 x3 x4 x5 x6 x7)) : wY_tiling_76 post J7 x1 x2 x3 x4 x5 x6 x7 w o :=
  dm_br h (fun h => h) (fun h => nm_e (dm_br h (fun h => ⟨by decide, by decide, nm_e (nm_e (HJ _ _ _ h))⟩) (fun h => nm_e (nm_e (HJ _ _ _ h)))))
theorem dm_Y54w {post : Int32 → Prop} {J : Int32 → Int32 → Int32 → Option Int32} {J7 : Int32 → Int32 → Int32 → Prop} {w o : Nat → Int32} {x1 x2 x3 x4 x5 x6 z0 : Int32} (HJ : ∀ a b c, dm_ok post (J a b c) → J7 a b c) (h : dm_ok post (dm_Y54 J x2 x3 x4 x5 x6 z0)) : wY_tiling_54 post J7 x1 x2 x3 x4 x5 x6 z0 w o :=
  dm_br h (fun h => h) (fun h => dm_br h (fun h => ⟨by decide, dm_br h (fun h => h) (fun h => dm_Y76w HJ h)⟩) (fun h => dm_Y76w HJ h))
theorem dm_Y36w {post : Int32 → Prop} {J : Int32 → Int32 → Int32 → Option Int32} {J7 : Int32 → Int32 → Int32 → Prop} {w o : Nat → Int32} {x1 x2 x3 x4 x5 z0 : Int32} (HJ : ∀ a b c, dm_ok post (J a b c) → J7 a b c) (h : dm_ok post (dm_Y36 J x2 x3 x4 x5 z0)) : wY_tiling_36 post J7 x1 x2 x3 x4 x5 z0 w o :=
  dm_br h (fun h => dm_Y54w HJ h) (fun h => dm_Y54w HJ h)
theorem dm_fYw {post : Int32 → Prop} {w o : Nat → Int32} {x1 : Int32} : ∀ (n : Nat) (x2 x3 x4 : Int32), dm_ok post (dm_fY x1 n x2 x3 x4) → wY_tiling_7 post x1 w o n x2 x3 x4 := by
  intro n
  induction n with
  | zero => intro x2 x3 x4 h; exact h
  | succ n ih =>
    intro x2 x3 x4 h
    refine dm_br h (fun h => h) (fun h => ⟨17, dm_fow 17 0 ?_⟩)
    have h2 := dm_okt h
    generalize dm_fo x2 17 0 = q at h2
    cases q with
    | none => exact h2
    | some r => exact dm_br (post := post) h2 (fun h => dm_Y36w ih h) (fun h => dm_Y36w ih h)
theorem dm_ty {post : Int32 → Prop} {w o : Nat → Int32} {c : Nat} (hc : c < 256) (h : post (dm_T c)) : wpY_tiling post (w, o) (nI c) :=
  ⟨9, dm_fYw 9 0 0 0 (by rw [dm_F2 c hc]; exact h)⟩
-- the tests of the arguments
theorem dm_plN {post : Int32 → Prop} {x : Int32} (h : x < 0 ∨ nI 24 ≤ x) (hp : post 0) : wpX_isPlace post x :=
  br_c (fun _ => hp) (fun n => h.elim (fun e => absurd e n) (fun e => br_t e hp))
theorem dm_plY {post : Int32 → Prop} {j : Nat} (h : j < 24) (hp : post 1) : wpX_isPlace post (nI j) :=
  br_f (nI_pos (by omega)) (br_f (nI_ge (b := 24) h (by decide)) hp)
theorem dm_bdN {post : Int32 → Prop} {v : SY} {x : Int32} (h : x < 0 ∨ nI 24 ≤ x) (hp : post 1) : wpY_bad post v x := by
  refine br_c (fun _ => hp) (fun n => h.elim (fun e => absurd e n) (fun e => br_f (fun z => ?_) hp))
  exact nI_ge (a := 23) (b := 24) (by decide) (by decide) (Int32.le_trans e z)
theorem dm_bdY {post : Int32 → Prop} {v : SY} {j : Nat} (h : j < 24) (hp : post 0) : wpY_bad post v (nI j) :=
  br_f (nI_pos (by omega)) (br_t (nI_le (b := 23) (by omega) (by decide)) hp)
theorem dm_wt (x : Int32) : (x < 0 ∨ 4 < x) ∨ (¬ x < 0 ∧ ¬ 4 < x ∧ x ≤ 4) := by
  by_cases h : x < 0
  · exact Or.inl (Or.inl h)
  · by_cases h4 : 4 < x
    · exact Or.inl (Or.inr h4)
    · exact Or.inr ⟨h, h4, Int32.not_lt.mp h4⟩
theorem dm_wtN {post : Int32 → Prop} {x : Int32} (h : x < 0 ∨ 4 < x) (hp : post 0) : wpX_isWeight post x :=
  br_c (fun _ => hp) (fun n => h.elim (fun e => absurd e n) (fun e => br_t e hp))
theorem dm_wtY {post : Int32 → Prop} {x : Int32} (h : ¬ x < 0) (h4 : ¬ 4 < x) (hp : post 1) : wpX_isWeight post x :=
  br_f h (br_f h4 hp)
theorem dm_ywN {A B : Prop} {x : Int32} (h : x < 0 ∨ 4 < x) (hp : A) : (x < 0 → A) ∧ (¬ x < 0 → ((x ≤ 4 → B) ∧ (¬ x ≤ 4 → A))) :=
  br_c (fun _ => hp) (fun n => h.elim (fun e => absurd e n) (fun e => br_f (fun z => Int32.not_lt.mpr z e) hp))
