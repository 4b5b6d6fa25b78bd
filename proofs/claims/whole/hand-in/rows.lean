section
-- pasted from kit/rows/PURE-ROWS: the five pk_ rows
theorem pk_us {f : Nat → Int32} {k : Nat} {x : Int32} : upd f k x k = x := if_pos rfl
theorem pk_un {f : Nat → Int32} {k j : Nat} {x : Int32} (h : j ≠ k) : upd f k x j = f j := if_neg h
theorem pk_ix (x : Int32) {n : Nat} (hn : n < 2 ^ 31) : x < 0 ∨ nI n ≤ x ∨ ∃ j : Nat, j < n ∧ x = nI j := by
  by_cases h : x < 0
  · exact Or.inl h
  · obtain ⟨j, hj, rfl⟩ := nI_of h
    by_cases h2 : j < n
    · exact Or.inr (Or.inr ⟨j, h2, rfl⟩)
    · exact Or.inr (Or.inl (nI_le (by omega) hj))
theorem pk_and (x : Int32) {m : Int32} (k : Nat) (hm : m.toBitVec.toNat = 2 ^ k - 1) : x &&& m = nI (x.toBitVec.toNat % 2 ^ k) := by
  apply Int32.toBitVec_inj.mp
  apply BitVec.eq_of_toNat_eq
  rw [Int32.toBitVec_and, BitVec.toNat_and, hm, Nat.and_two_pow_sub_one_eq_mod]
  show _ = (BitVec.ofNat 32 _).toNat
  rw [BitVec.toNat_ofNat]
  exact (Nat.mod_eq_of_lt (Nat.lt_of_le_of_lt (Nat.mod_le _ _) x.toBitVec.isLt)).symm
theorem pk_andE (x : Int32) {m : Int32} (k : Nat) (hm : m.toBitVec.toNat = 2 ^ k - 1) : ∃ j : Nat, j < 2 ^ k ∧ x &&& m = nI j := ⟨_, Nat.mod_lt _ (Nat.two_pow_pos k), pk_and x k hm⟩
/-- a counted loop's value: g at i, i + 1, .. (d steps) -/
def dm_fold {σ : Type} (g : σ → Nat → σ) : Nat → Nat → σ → σ
  | 0, _, s => s
  | d + 1, i, s => dm_fold g d (i + 1) (g s i)
theorem dm_loop {σ : Type} (W : Nat → Nat → σ → Prop) (g : σ → Nat → σ) (e : Nat) (F : σ → Prop) (hx : ∀ n s, F s → W (n + 1) e s) (hs : ∀ n i s, i < e → W n (i + 1) (g s i) → W (n + 1) i s) : ∀ d i s, i + d = e → F (dm_fold g d i s) → W (d + 1) i s := by
  intro d
  induction d with
  | zero =>
    intro i s h hF
    have e1 : i = e := by omega
    subst e1
    exact hx 0 s hF
  | succ d ih =>
    intro i s h hF
    exact hs (d + 1) i s (by omega) (ih (i + 1) (g s i) (by omega) hF)
theorem dm_loop0 {σ : Type} (W : Nat → Nat → σ → Prop) (g : σ → Nat → σ) (e : Nat) (F : σ → Prop) (hx : ∀ n s, F s → W (n + 1) e s) (hs : ∀ n i s, i < e → W n (i + 1) (g s i) → W (n + 1) i s) (s : σ) (h : F (dm_fold g e 0 s)) : ∃ n, W n 0 s :=
  ⟨e + 1, dm_loop W g e F hx hs e 0 s (Nat.zero_add e) h⟩
theorem dm_cong {σ : Type} (g g' : σ → Nat → σ) (e : Nat) (h : ∀ s i, i < e → g s i = g' s i) : ∀ d i s, i + d ≤ e → dm_fold g d i s = dm_fold g' d i s := by
  intro d
  induction d with
  | zero => intro i s _; rfl
  | succ d ih =>
    intro i s hi
    show dm_fold g d (i + 1) (g s i) = dm_fold g' d (i + 1) (g' s i)
    rw [h s i (by omega)]
    exact ih (i + 1) _ (by omega)
/-- an answer that is there and satisfies post -/
def dm_ok (post : Int32 → Prop) : Option Int32 → Prop
  | none => False
  | some r => post r
theorem dm_br {post : Int32 → Prop} {c : Prop} [Decidable c] {a b : Option Int32} {A B : Prop} (h : dm_ok post (if c then a else b)) (ha : dm_ok post a → A) (hb : dm_ok post b → B) : (c → A) ∧ (¬ c → B) :=
  ⟨fun e => ha (by rw [if_pos e] at h; exact h), fun e => hb (by rw [if_neg e] at h; exact h)⟩
theorem dm_ite {P : Int32 → Prop} {c : Prop} [Decidable c] {a b : Int32} (h : P (if c then a else b)) : (c → P a) ∧ (¬ c → P b) :=
  ⟨fun e => by rw [if_pos e] at h; exact h, fun e => by rw [if_neg e] at h; exact h⟩
def dm_con (p m : Int32) : Int32 := if ((p >>> (m &&& 31)) &&& 1) = 1 then 1 else 0
def dm_up (s : Int32) : Int32 := if 12 ≤ s then (-1) else 12 + s
def dm_ac (s : Int32) : Int32 := if 3 ≤ s - s / 4 * 4 then (-1) else ((s / 4) * 3) + (s - s / 4 * 4)
def dm_sq (p : Int32) : Int32 := if 12 ≤ p then (((1 : Int32) <<< ((p - 12) &&& 31)) ||| ((1 : Int32) <<< (((p - 12) + 4) &&& 31))) else (((1 : Int32) <<< ((((p / 3) * 4) + (p - p / 3 * 3)) &&& 31)) ||| ((1 : Int32) <<< (((((p / 3) * 4) + (p - p / 3 * 3)) + 1) &&& 31)))
def dm_X49 (J : Int32 → Int32 → Int32 → Int32 → Option Int32) (x1 x2 x3 x4 z : Int32) : Option Int32 :=
  if z = (-1) then some 0 else if (x2 &&& dm_sq z) = 0 then J (x1 >>> ((1 : Int32) &&& 31)) (x2 ||| dm_sq z) (x3 ||| ((1 : Int32) <<< (z &&& 31))) (x4 + 1) else some 0
/-- the class's search for the tiling of a number of choices -/
def dm_fX : Nat → Int32 → Int32 → Int32 → Int32 → Option Int32
  | 0 => fun _ _ _ _ => none
  | n + 1 => fun x1 x2 x3 x4 => if 16 ≤ x4 then some x3 else if dm_con x2 x4 = 0 then (if dm_con x1 0 = 0 then dm_X49 (dm_fX n) x1 x2 x3 x4 (dm_ac x4) else dm_X49 (dm_fX n) x1 x2 x3 x4 (dm_up x4)) else dm_fX n x1 x2 x3 (x4 + 1)
def dm_fo (x1 : Int32) : Nat → Int32 → Option Int32
  | 0 => fun _ => none
  | n + 1 => fun x2 => if 16 ≤ x2 then some 16 else if ((x1 >>> (x2 &&& 31)) &&& 1) = 0 then some x2 else dm_fo x1 n (x2 + 1)
def dm_then (o : Option Int32) (f : Int32 → Option Int32) : Option Int32 := match o with
  | none => none
  | some r => f r
def dm_Y76 (J : Int32 → Int32 → Int32 → Option Int32) (x2 x3 x4 x5 x6 x7 : Int32) : Option Int32 :=
  if ((x2 >>> (x7 &&& 31)) &&& 1) = 1 then some 0 else if x6 = 0 then J ((x2 ||| ((1 : Int32) <<< (x5 &&& 31))) ||| ((1 : Int32) <<< (x7 &&& 31))) (x3 ||| ((1 : Int32) <<< ((((x5 / 4) * 3) + (x5 - x5 / 4 * 4)) &&& 31))) (x4 + 1) else J ((x2 ||| ((1 : Int32) <<< (x5 &&& 31))) ||| ((1 : Int32) <<< (x7 &&& 31))) (x3 ||| ((1 : Int32) <<< ((12 + x5) &&& 31))) (x4 + 1)
def dm_Y54 (J : Int32 → Int32 → Int32 → Option Int32) (x2 x3 x4 x5 x6 z0 : Int32) : Option Int32 :=
  if 15 < z0 then some 0 else if x6 = 0 then (if (x5 - x5 / 4 * 4) = 3 then some 0 else dm_Y76 J x2 x3 x4 x5 x6 z0) else dm_Y76 J x2 x3 x4 x5 x6 z0
def dm_Y36 (J : Int32 → Int32 → Int32 → Option Int32) (x2 x3 x4 x5 z0 : Int32) : Option Int32 :=
  if z0 = 0 then dm_Y54 J x2 x3 x4 x5 z0 (x5 + 1) else dm_Y54 J x2 x3 x4 x5 z0 (x5 + 4)
/-- the reference's search -/
def dm_fY (x1 : Int32) : Nat → Int32 → Int32 → Int32 → Option Int32
  | 0 => fun _ _ _ => none
  | n + 1 => fun x2 x3 x4 => if 8 ≤ x4 then some x3 else dm_then (dm_fo x2 17 0) (fun r => if ((x1 >>> (x4 &&& 31)) &&& 1) = 1 then dm_Y36 (dm_fY x1 n) x2 x3 x4 r 1 else dm_Y36 (dm_fY x1 n) x2 x3 x4 r 0)
/-- the tiling of each of the 256 numbers of choices, 0 where there is none -/
def dm_tab : List Nat := [
  2925, 0, 0, 15204, 0, 39762, 52041, 0, 0, 0, 0, 0, 199461, 0, 0, 64320, 0, 0, 0, 0, 592533, 0, 0, 0,
  789069, 0, 0, 801348, 0, 0, 248577, 0, 0, 0, 0, 0, 0, 0, 0, 0, 0, 0, 0, 0, 0, 0, 0, 0,
  3148077, 0, 0, 3160356, 0, 3184914, 3197193, 0, 0, 0, 0, 0, 985605, 0, 0, 3209472, 0, 0, 0, 0, 0, 0, 0, 0,
  0, 0, 0, 0, 0, 0, 0, 0, 9438381, 0, 0, 9450660, 0, 9475218, 9487497, 0, 0, 0, 0, 0, 0, 0, 0, 9499776,
  12583533, 0, 0, 12595812, 0, 12620370, 12632649, 0, 0, 0, 0, 0, 12780069, 0, 0, 12644928, 0, 0, 0, 0, 0, 0, 0, 0,
  3934221, 0, 0, 3946500, 0, 9868290, 12829185, 0, 0, 0, 0, 0, 0, 0, 0, 0, 0, 0, 0, 0, 0, 0, 0, 0,
  0, 0, 0, 0, 0, 0, 0, 0, 0, 0, 0, 0, 0, 0, 0, 0, 0, 0, 0, 0, 0, 0, 0, 0,
  0, 0, 0, 0, 0, 0, 0, 0, 0, 0, 0, 0, 0, 0, 0, 0, 0, 0, 0, 0, 0, 0, 0, 0,
  0, 0, 0, 0, 0, 0, 0, 0, 0, 0, 0, 0, 0, 0, 0, 0, 0, 0, 0, 0, 0, 0, 0, 0,
  0, 0, 0, 0, 0, 0, 0, 0, 0, 0, 0, 0, 0, 0, 0, 0, 0, 0, 0, 0, 0, 0, 0, 0,
  15728685, 0, 0, 15740964, 0, 15765522, 15777801, 0, 0, 0, 0, 0, 0, 0, 0, 15790080]
def dm_lst : List Nat := [
  2925, 15204, 39762, 52041, 199461, 64320, 592533, 789069, 801348, 248577, 3148077, 3160356,
  3184914, 3197193, 985605, 3209472, 9438381, 9450660, 9475218, 9487497, 9499776, 12583533, 12595812, 12620370,
  12632649, 12780069, 12644928, 3934221, 3946500, 9868290, 12829185, 15728685, 15740964, 15765522, 15777801, 15790080]
def dm_T (c : Nat) : Int32 := nI (dm_tab.getD c 0)
def dm_L (j : Nat) : Int32 := nI (dm_lst.getD j 0)
def dm_cnt : Nat → Nat
  | 0 => 0
  | c + 1 => if dm_T c = 0 then dm_cnt c else dm_cnt c + 1
set_option maxRecDepth 20000 in
theorem dm_F1 : ∀ c, c < 256 → dm_fX 17 (nI c) 0 0 0 = some (dm_T c) := by decide +kernel
set_option maxRecDepth 20000 in
theorem dm_F2 : ∀ c, c < 256 → dm_fY (nI c) 9 0 0 0 = some (dm_T c) := by decide +kernel
set_option maxRecDepth 20000 in
theorem dm_F3 : ∀ c, c < 256 → dm_T c = 0 ∨ dm_L (dm_cnt c) = dm_T c := by decide +kernel
set_option maxRecDepth 20000 in
theorem dm_F4 : ∀ c, c < 257 → dm_cnt c ≤ 36 := by decide +kernel
set_option maxRecDepth 20000 in
theorem dm_F5 : dm_cnt 256 = 36 := by decide +kernel
/-- a fold over the 256 that passes over the empty ones is the fold over the 36 -/
theorem dm_sel {σ : Type} (gX gY : σ → Nat → σ) (h0 : ∀ s c, c < 256 → dm_T c = 0 → gY s c = s) (h1 : ∀ s c, c < 256 → ¬ dm_T c = 0 → gY s c = gX s (dm_cnt c)) : ∀ d c s, c + d = 256 → dm_fold gY d c s = dm_fold gX (36 - dm_cnt c) (dm_cnt c) s := by
  intro d
  induction d with
  | zero =>
    intro c s h
    have e1 : c = 256 := by omega
    subst e1
    rw [dm_F5]
    rfl
  | succ d ih =>
    intro c s h
    show dm_fold gY d (c + 1) (gY s c) = _
    rw [ih (c + 1) _ (by omega)]
    by_cases z : dm_T c = 0
    · have ec : dm_cnt (c + 1) = dm_cnt c := if_pos z
      rw [h0 s c (by omega) z, ec]
    · have ec : dm_cnt (c + 1) = dm_cnt c + 1 := if_neg z
      have le := dm_F4 (c + 1) (by omega)
      rw [ec] at le
      have e2 : 36 - dm_cnt c = (36 - (dm_cnt c + 1)) + 1 := by omega
      rw [h1 s c (by omega) z, ec, e2]
      rfl
end
section
theorem dm_conw {post : Int32 → Prop} {p m : Int32} (h : post (dm_con p m)) : wpX_contains post p m := dm_ite (P := post) h
theorem dm_conb {A B : Prop} {p m : Int32} (hb : ((p >>> (m &&& 31)) &&& 1) = 1 → B) (ha : ¬ ((p >>> (m &&& 31)) &&& 1) = 1 → A) : wpX_contains (fun r => (r = 0 → A) ∧ (¬ r = 0 → B)) p m :=
  br_c (fun e => br_f (by decide) (hb e)) (fun e => br_t rfl (ha e))
theorem dm_upw {post : Int32 → Prop} {p : Int32} (h : post (dm_up p)) : wpX_uprightFrom post p := dm_ite (P := post) h
theorem dm_acw {post : Int32 → Prop} {p : Int32} (h : post (dm_ac p)) : wpX_acrossFrom post p :=
  ⟨by decide, nm_e ⟨by decide, nm_e (dm_ite (P := post) h)⟩⟩
theorem dm_sqw {post : Int32 → Prop} {p : Int32} (h : post (dm_sq p)) : wpX_squaresOf post p :=
  br_c (fun e => nm_e ((dm_ite (P := post) h).1 e)) (fun e => ⟨by decide, by decide, nm_e ((dm_ite (P := post) h).2 e)⟩)
theorem dm_X49w {post : Int32 → Prop} {J : Int32 → Int32 → Int32 → Int32 → Option Int32} {J9 : Int32 → Int32 → Int32 → Int32 → Prop} {x1 x2 x3 x4 z : Int32} (HJ : ∀ a b c d, dm_ok post (J a b c d) → J9 a b c d) (h : dm_ok post (dm_X49 J x1 x2 x3 x4 z)) : wX_tilingOfChoices_49 post J9 x1 x2 x3 x4 z :=
  nm_e (dm_br h (fun h => h) (fun h => dm_sqw (dm_br h (fun h => nm_e (nm_e (nm_e (HJ _ _ _ _ h)))) (fun h => h))))
theorem dm_fXw {post : Int32 → Prop} : ∀ (n : Nat) (x1 x2 x3 x4 : Int32), dm_ok post (dm_fX n x1 x2 x3 x4) → wX_tilingOfChoices_9 post n x1 x2 x3 x4 := by
  intro n
  induction n with
  | zero => intro x1 x2 x3 x4 h; exact h
  | succ n ih =>
    intro x1 x2 x3 x4 h
    refine dm_br h (fun h => h) (fun h => dm_conw ?_)
    refine dm_br h (fun h => dm_conw ?_) (fun h => nm_e (ih _ _ _ _ h))
    exact dm_br h (fun h => dm_acw (dm_X49w ih h)) (fun h => dm_upw (dm_X49w ih h))
theorem dm_tx {post : Int32 → Prop} {c : Nat} (hc : c < 256) (h : post (dm_T c)) : wpX_tilingOfChoices post (nI c) :=
  ⟨17, dm_fXw 17 (nI c) 0 0 0 (by rw [dm_F1 c hc]; exact h)⟩
theorem dm_okt {post : Int32 → Prop} {o : Option Int32} {f : Int32 → Option Int32} (h : dm_ok post (dm_then o f)) : dm_ok (fun r => dm_ok post (f r)) o := by
  cases o with
  | none => exact h
  | some r => exact h
theorem dm_fow {post : Int32 → Prop} {w o : Nat → Int32} {x1 : Int32} : ∀ (n : Nat) (x2 : Int32), dm_ok post (dm_fo x1 n x2) → wY_firstOpen_2 post x1 w o n x2 := by
  intro n
  induction n with
  | zero => intro x2 h; exact h
  | succ n ih =>
    intro x2 h
    exact dm_br h (fun h => h) (fun h => dm_br h (fun h => h) (fun h => nm_e (ih _ h)))
theorem dm_Y76w {post : Int32 → Prop} {J : Int32 → Int32 → Int32 → Option Int32} {J7 : Int32 → Int32 → Int32 → Prop} {w o : Nat → Int32} {x1 x2 x3 x4 x5 x6 x7 : Int32} (HJ : ∀ a b c, dm_ok post (J a b c) → J7 a b c) (h : dm_ok post (dm_Y76 J x2 x3 x4 x5 x6 x7)) : wY_tiling_76 post J7 x1 x2 x3 x4 x5 x6 x7 w o :=
  dm_br h (fun h => h) (fun h => nm_e (dm_br h (fun h => ⟨by decide, by decide, nm_e (nm_e (HJ _ _ _ h))⟩) (fun h => nm_e (nm_e (HJ _ _ _ h)))))
theorem dm_Y54w {post : Int32 → Prop} {J : Int32 → Int32 → Int32 → Option Int32} {J7 : Int32 → Int32 → Int32 → Prop} {w o : Nat → Int32} {x1 x2 x3 x4 x5 x6 z0 : Int32} (HJ : ∀ a b c, dm_ok post (J a b c) → J7 a b c) (h : dm_ok post (dm_Y54 J x2 x3 x4 x5 x6 z0)) : wY_tiling_54 post J7 x1 x2 x3 x4 x5 x6 z0 w o :=
  dm_br h (fun h => h) (fun h => dm_br h (fun h => ⟨by decide, dm_br h (fun h => h) (fun h => dm_Y76w HJ h)⟩) (fun h => dm_Y76w HJ h))
theorem dm_Y36w {post : Int32 → Prop} {J : Int32 → Int32 → Int32 → Option Int32} {J7 : Int32 → Int32 → Int32 → Prop} {w o : Nat → Int32} {x1 x2 x3 x4 x5 z0 : Int32} (HJ : ∀ a b c, dm_ok post (J a b c) → J7 a b c) (h : dm_ok post (dm_Y36 J x2 x3 x4 x5 z0)) : wY_tiling_36 post J7 x1 x2 x3 x4 x5 z0 w o :=
  dm_br h (fun h => dm_Y54w HJ h) (fun h => dm_Y54w HJ h)
theorem dm_fYw {post : Int32 → Prop} {w o : Nat → Int32} {x1 : Int32} : ∀ (n : Nat) (x2 x3 x4 : Int32), dm_ok post (dm_fY x1 n x2 x3 x4) → wY_tiling_7 post x1 w o n x2 x3 x4 := by
  intro n
  induction n with
  | zero => intro x2 x3 x4 h; exact h
  | succ n ih =>
    intro x2 x3 x4 h
    refine dm_br h (fun h => h) (fun h => ⟨17, dm_fow 17 0 ?_⟩)
    have h2 := dm_okt h
    generalize dm_fo x2 17 0 = q at h2
    cases q with
    | none => exact h2
    | some r => exact dm_br (post := post) h2 (fun h => dm_Y36w ih h) (fun h => dm_Y36w ih h)
theorem dm_ty {post : Int32 → Prop} {w o : Nat → Int32} {c : Nat} (hc : c < 256) (h : post (dm_T c)) : wpY_tiling post (w, o) (nI c) :=
  ⟨9, dm_fYw 9 0 0 0 (by rw [dm_F2 c hc]; exact h)⟩
-- the tests of the arguments
theorem dm_plN {post : Int32 → Prop} {x : Int32} (h : x < 0 ∨ nI 24 ≤ x) (hp : post 0) : wpX_isPlace post x :=
  br_c (fun _ => hp) (fun n => h.elim (fun e => absurd e n) (fun e => br_t e hp))
theorem dm_plY {post : Int32 → Prop} {j : Nat} (h : j < 24) (hp : post 1) : wpX_isPlace post (nI j) :=
  br_f (nI_pos (by omega)) (br_f (nI_ge (b := 24) h (by decide)) hp)
theorem dm_bdN {post : Int32 → Prop} {v : SY} {x : Int32} (h : x < 0 ∨ nI 24 ≤ x) (hp : post 1) : wpY_bad post v x := by
  refine br_c (fun _ => hp) (fun n => h.elim (fun e => absurd e n) (fun e => br_f (fun z => ?_) hp))
  exact nI_ge (a := 23) (b := 24) (by decide) (by decide) (Int32.le_trans e z)
theorem dm_bdY {post : Int32 → Prop} {v : SY} {j : Nat} (h : j < 24) (hp : post 0) : wpY_bad post v (nI j) :=
  br_f (nI_pos (by omega)) (br_t (nI_le (b := 23) (by omega) (by decide)) hp)
theorem dm_wt (x : Int32) : (x < 0 ∨ 4 < x) ∨ (¬ x < 0 ∧ ¬ 4 < x ∧ x ≤ 4) := by
  by_cases h : x < 0
  · exact Or.inl (Or.inl h)
  · by_cases h4 : 4 < x
    · exact Or.inl (Or.inr h4)
    · exact Or.inr ⟨h, h4, Int32.not_lt.mp h4⟩
theorem dm_wtN {post : Int32 → Prop} {x : Int32} (h : x < 0 ∨ 4 < x) (hp : post 0) : wpX_isWeight post x :=
  br_c (fun _ => hp) (fun n => h.elim (fun e => absurd e n) (fun e => br_t e hp))
theorem dm_wtY {post : Int32 → Prop} {x : Int32} (h : ¬ x < 0) (h4 : ¬ 4 < x) (hp : post 1) : wpX_isWeight post x :=
  br_f h (br_f h4 hp)
theorem dm_ywN {A B : Prop} {x : Int32} (h : x < 0 ∨ 4 < x) (hp : A) : (x < 0 → A) ∧ (¬ x < 0 → ((x ≤ 4 → B) ∧ (¬ x ≤ 4 → A))) :=
  br_c (fun _ => hp) (fun n => h.elim (fun e => absurd e n) (fun e => br_f (fun z => Int32.not_lt.mpr z e) hp))
end
section
-- worth
def dm_wg (w : Nat → Int32) (p : Int32) (a : Int32) (i : Nat) : Int32 := if ((p >>> (nI i &&& 31)) &&& 1) = 1 then a * w i else a
def dm_wo (w : Nat → Int32) (p : Int32) (a : Int32) : Int32 := dm_fold (dm_wg w p) 24 0 a
def dm_wy (w : Nat → Int32) (p : Int32) : Int32 := if p = 0 then dm_wo w p 0 else dm_wo w p 1
theorem dm_wgt {w : Nat → Int32} {p a : Int32} {i : Nat} (h : ((p >>> (nI i &&& 31)) &&& 1) = 1) : dm_wg w p a i = a * w i := if_pos h
theorem dm_wgf {w : Nat → Int32} {p a : Int32} {i : Nat} (h : ¬ ((p >>> (nI i &&& 31)) &&& 1) = 1) : dm_wg w p a i = a := if_neg h
theorem dm_xw {post : Int32 → Prop} {w t tl : Nat → Int32} {p : Int32} (h : post (dm_wo w p 1)) : wpX_worth post (w, t, tl) p := by
  refine dm_loop0 (fun n i s => wX_worth_4 post p w t tl n s (nI i)) (dm_wg w p) 24 post (fun n s hF => br_t (nI_le (Nat.le_refl 24) (by decide)) hF) (fun n i s hi hW => br_f (nI_ge (b := 24) hi (by decide)) ?_) 1 h
  refine dm_conb (fun e => ⟨vp_in_nI hi (by decide), nm_r (e' := s * w i) (by rw [nI_clamp (by omega)]) (nm_r (nI_1 i) ?_)⟩) (fun e => nm_r (nI_1 i) ?_)
  · rw [dm_wgt e] at hW; exact hW
  · rw [dm_wgf e] at hW; exact hW
theorem dm_yw0 {post : Int32 → Prop} {w o : Nat → Int32} {p a : Int32} (h : post (dm_wo w p a)) : ∃ n, wY_worth_12 post p w o n a 0 := by
  refine dm_loop0 (fun n i s => wY_worth_12 post p w o n s (nI i)) (dm_wg w p) 24 post (fun n s hF => br_t (nI_le (Nat.le_refl 24) (by decide)) hF) (fun n i s hi hW => br_f (nI_ge (b := 24) hi (by decide)) ?_) a h
  refine br_c (fun e => ⟨vp_in_nI hi (by decide), nm_r (e' := s * w i) (by rw [nI_clamp (by omega)]) (nm_r (nI_1 i) ?_)⟩) (fun e => nm_r (nI_1 i) ?_)
  · rw [dm_wgt e] at hW; exact hW
  · rw [dm_wgf e] at hW; exact hW
theorem dm_yw {post : Int32 → Prop} {w o : Nat → Int32} {p : Int32} (h : post (dm_wy w p)) : wpY_worth post (w, o) p :=
  br_c (fun e => dm_yw0 ((dm_ite (P := post) h).1 e)) (fun e => dm_yw0 ((dm_ite (P := post) h).2 e))
theorem dm_b0 : ∀ i, i < 24 → ¬ (((0 : Int32) >>> (nI i &&& 31)) &&& 1) = 1 := by decide +kernel
theorem dm_wy0 (w : Nat → Int32) : dm_wy w 0 = 0 := by
  unfold dm_wy dm_wo
  rw [if_pos rfl]
  have h : ∀ d i (s : Int32), i + d ≤ 24 → dm_fold (dm_wg w 0) d i s = s := by
    intro d
    induction d with
    | zero => intro i s _; rfl
    | succ d ih =>
      intro i s hi
      show dm_fold (dm_wg w 0) d (i + 1) (dm_wg w 0 s i) = s
      rw [dm_wgf (dm_b0 i (by omega))]
      exact ih (i + 1) s (by omega)
  exact h 24 0 0 (by decide)
theorem dm_wyp (w : Nat → Int32) {p : Int32} (h : ¬ p = 0) : dm_wy w p = dm_wo w p 1 := if_neg h
-- the class's tilings
def dm_Tl (tl : Nat → Int32) : Prop := ∀ j, j < 36 → tl j = dm_L j
theorem dm_tl {tl : Nat → Int32} (hT : dm_Tl tl) {i : Nat} (hi : i < 36) : tl (nI i).toNatClampNeg = dm_L i := by
  rw [nI_clamp (by omega)]; exact hT i hi
theorem dm_Lc {c : Nat} (hc : c < 256) (z : ¬ dm_T c = 0) : dm_L (dm_cnt c) = dm_T c := (dm_F3 c hc).elim (fun e => absurd e z) (fun e => e)
-- sums
def dm_sX (w : Nat → Int32) (q s : Int32) (j : Nat) : Int32 := if (dm_L j &&& q) = q then s + dm_wo w (dm_L j) 1 else s
def dm_sY (w : Nat → Int32) (q s : Int32) (c : Nat) : Int32 := if (dm_T c &&& q) = q then s + dm_wy w (dm_T c) else s
def dm_S (w : Nat → Int32) (q : Int32) : Int32 := dm_fold (dm_sX w q) 36 0 0
theorem dm_sYX (w : Nat → Int32) (q : Int32) : dm_fold (dm_sY w q) 256 0 0 = dm_S w q :=
  dm_sel (dm_sX w q) (dm_sY w q) (fun s c hc z => by
      unfold dm_sY
      rw [z, dm_wy0, Int32.add_zero]
      exact ite_self s) (fun s c hc z => by
      unfold dm_sY dm_sX
      rw [dm_Lc hc z, dm_wyp w z]) 256 0 0 rfl
theorem dm_xs {post : Int32 → Prop} {w t tl : Nat → Int32} {q : Int32} (hT : dm_Tl tl) (h : post (dm_S w q)) : wpX_sumOfWorths post (w, t, tl) q := by
  refine dm_loop0 (fun n i s => wX_sumOfWorths_4 post q w t tl n s (nI i)) (dm_sX w q) 36 post (fun n s hF => br_t (nI_le (Nat.le_refl 36) (by decide)) hF) (fun n i s hi hW => br_f (nI_ge (b := 36) hi (by decide)) ⟨vp_in_nI hi (by decide), ?_⟩) 0 h
  rw [dm_tl hT hi]
  refine br_c (fun e => ⟨vp_in_nI hi (by decide), dm_xw (nm_e (nm_r (nI_1 i) ?_))⟩) (fun e => nm_r (nI_1 i) ?_)
  · have e2 : dm_sX w q s i = s + dm_wo w (dm_L i) 1 := if_pos e
    rw [e2] at hW; exact hW
  · have e2 : dm_sX w q s i = s := if_neg e
    rw [e2] at hW; exact hW
theorem dm_ys {post : Int32 → Prop} {w o : Nat → Int32} {q : Int32} (h : post (dm_S w q)) : wpY_sumWith post (w, o) q := by
  rw [← dm_sYX] at h
  refine dm_loop0 (fun n i s => wY_sumWith_4 post q w o n s (nI i)) (dm_sY w q) 256 post (fun n s hF => br_t (nI_le (Nat.le_refl 256) (by decide)) hF) (fun n i s hi hW => br_f (nI_ge (b := 256) hi (by decide)) (dm_ty hi ?_)) 0 h
  refine br_c (fun e => dm_yw (nm_e (nm_r (nI_1 i) ?_))) (fun e => nm_r (nI_1 i) ?_)
  · have e2 : dm_sY w q s i = s + dm_wy w (dm_T i) := if_pos e
    rw [e2] at hW; exact hW
  · have e2 : dm_sY w q s i = s := if_neg e
    rw [e2] at hW; exact hW
-- possible
def dm_pX (w : Nat → Int32) (s : Int32) (j : Nat) : Int32 := if dm_wo w (dm_L j) 1 ≤ 0 then s else s + 1
def dm_pY (w : Nat → Int32) (s : Int32) (c : Nat) : Int32 := if dm_wy w (dm_T c) ≤ 0 then s else s + 1
def dm_P (w : Nat → Int32) : Int32 := dm_fold (dm_pX w) 36 0 0
theorem dm_pYX (w : Nat → Int32) : dm_fold (dm_pY w) 256 0 0 = dm_P w :=
  dm_sel (dm_pX w) (dm_pY w) (fun s c hc z => by
      unfold dm_pY
      rw [z, dm_wy0]
      exact if_pos (by decide)) (fun s c hc z => by
      unfold dm_pY dm_pX
      rw [dm_Lc hc z, dm_wyp w z]) 256 0 0 rfl
theorem dm_xp {post : Int32 → Prop} {w t tl : Nat → Int32} (hT : dm_Tl tl) (h : post (dm_P w)) : wpX_possible post (w, t, tl) := by
  refine dm_loop0 (fun n i s => wX_possible_4 post w t tl n s (nI i)) (dm_pX w) 36 post (fun n s hF => br_t (nI_le (Nat.le_refl 36) (by decide)) hF) (fun n i s hi hW => br_f (nI_ge (b := 36) hi (by decide)) ⟨vp_in_nI hi (by decide), ?_⟩) 0 h
  rw [dm_tl hT hi]
  refine dm_xw (br_c (fun e => nm_r (nI_1 i) ?_) (fun e => nm_e (nm_r (nI_1 i) ?_)))
  · have e2 : dm_pX w s i = s := if_pos e
    rw [e2] at hW; exact hW
  · have e2 : dm_pX w s i = s + 1 := if_neg e
    rw [e2] at hW; exact hW
theorem dm_yp {post : Int32 → Prop} {w o : Nat → Int32} (h : post (dm_P w)) : wpY_possible post (w, o) := by
  rw [← dm_pYX] at h
  refine dm_loop0 (fun n i s => wY_possible_4 post w o n s (nI i)) (dm_pY w) 256 post (fun n s hF => br_t (nI_le (Nat.le_refl 256) (by decide)) hF) (fun n i s hi hW => br_f (nI_ge (b := 256) hi (by decide)) (dm_ty hi (dm_yw ?_))) 0 h
  refine br_c (fun e => nm_r (nI_1 i) ?_) (fun e => nm_e (nm_r (nI_1 i) ?_))
  · have e2 : dm_pY w s i = s := if_pos e
    rw [e2] at hW; exact hW
  · have e2 : dm_pY w s i = s + 1 := if_neg e
    rw [e2] at hW; exact hW
-- settled
def dm_cg (p s : Int32) (i : Nat) : Int32 := s + ((p >>> (nI i &&& 31)) &&& 1)
def dm_C (p : Int32) : Int32 := dm_fold (dm_cg p) 24 0 0
theorem dm_bit (y : Int32) (h : ¬ y &&& 1 = 1) : y &&& 1 = 0 := by
  obtain ⟨j, hj, e⟩ := pk_andE y (m := 1) 1 (by decide)
  have h2 : j = 0 ∨ j = 1 := by omega
  rcases h2 with rfl | rfl
  · exact e
  · exact absurd e h
theorem dm_xc {post : Int32 → Prop} {p : Int32} (h : post (dm_C p)) : wpX_countOfPlaces post p := by
  refine dm_loop0 (fun n i s => wX_countOfPlaces_4 post p n s (nI i)) (dm_cg p) 24 post (fun n s hF => br_t (nI_le (Nat.le_refl 24) (by decide)) hF) (fun n i s hi hW => br_f (nI_ge (b := 24) hi (by decide)) ?_) 0 h
  refine dm_conb (fun e => nm_e (nm_r (nI_1 i) ?_)) (fun e => nm_r (nI_1 i) ?_)
  · have e2 : dm_cg p s i = s + 1 := by unfold dm_cg; rw [e]
    rw [e2] at hW; exact hW
  · have e2 : dm_cg p s i = s := by unfold dm_cg; rw [dm_bit _ e, Int32.add_zero]
    rw [e2] at hW; exact hW
theorem dm_yc {post : Int32 → Prop} {w o : Nat → Int32} {p : Int32} (h : post (dm_C p)) : ∃ n, wY_settled_40 post p w o n 0 0 :=
  dm_loop0 (fun n i s => wY_settled_40 post p w o n s (nI i)) (dm_cg p) 24 post (fun n s hF => br_t (nI_le (Nat.le_refl 24) (by decide)) hF) (fun n i s hi hW => br_f (nI_ge (b := 24) hi (by decide)) (nm_e (nm_r (nI_1 i) hW))) 0 h
def dm_tX (w : Nat → Int32) (s : Int32) (j : Nat) : Int32 := if dm_wo w (dm_L j) 1 ≤ 0 then s else s &&& dm_L j
def dm_tY (w : Nat → Int32) (s : Int32) (c : Nat) : Int32 := if dm_wy w (dm_T c) ≤ 0 then s else s &&& dm_T c
def dm_M (w : Nat → Int32) : Int32 := dm_fold (dm_tX w) 36 0 16777215
theorem dm_tYX (w : Nat → Int32) : dm_fold (dm_tY w) 256 0 16777215 = dm_M w :=
  dm_sel (dm_tX w) (dm_tY w) (fun s c hc z => by
      unfold dm_tY
      rw [z, dm_wy0]
      exact if_pos (by decide)) (fun s c hc z => by
      unfold dm_tY dm_tX
      rw [dm_Lc hc z, dm_wyp w z]) 256 0 16777215 rfl
theorem dm_xt {post : Int32 → Prop} {w t tl : Nat → Int32} (hT : dm_Tl tl) (h : post (dm_C (dm_M w))) : wpX_settled post (w, t, tl) := by
  refine dm_loop0 (fun n i s => wX_settled_5 post w t tl n s (nI i)) (dm_tX w) 36 (fun s => post (dm_C s)) (fun n s hF => br_t (nI_le (Nat.le_refl 36) (by decide)) (dm_xc hF)) (fun n i s hi hW => br_f (nI_ge (b := 36) hi (by decide)) ⟨vp_in_nI hi (by decide), ?_⟩) 16777215 h
  rw [dm_tl hT hi]
  refine dm_xw (br_c (fun e => nm_r (nI_1 i) ?_) (fun e => ⟨vp_in_nI hi (by decide), nm_e (nm_r (nI_1 i) ?_)⟩))
  · have e2 : dm_tX w s i = s := if_pos e
    rw [e2] at hW; exact hW
  · have e2 : dm_tX w s i = s &&& dm_L i := if_neg e
    rw [e2] at hW; exact hW
theorem dm_yt {post : Int32 → Prop} {w o : Nat → Int32} (h : post (dm_C (dm_M w))) : wpY_settled post (w, o) := by
  rw [← dm_tYX] at h
  refine dm_loop0 (fun n i s => wY_settled_5 post w o n s (nI i)) (dm_tY w) 256 (fun s => post (dm_C s)) (fun n s hF => br_t (nI_le (Nat.le_refl 256) (by decide)) (dm_yc hF)) (fun n i s hi hW => br_f (nI_ge (b := 256) hi (by decide)) (dm_ty hi (dm_yw ?_))) 16777215 h
  refine br_c (fun e => nm_r (nI_1 i) ?_) (fun e => nm_e (nm_r (nI_1 i) ?_))
  · have e2 : dm_tY w s i = s := if_pos e
    rw [e2] at hW; exact hW
  · have e2 : dm_tY w s i = s &&& dm_T i := if_neg e
    rw [e2] at hW; exact hW
-- acrossTotal
def dm_ag (w : Nat → Int32) (s : Int32) (i : Nat) : Int32 := s + dm_S w ((1 : Int32) <<< (nI i &&& 31))
def dm_A (w : Nat → Int32) : Int32 := dm_fold (dm_ag w) 12 0 0
theorem dm_xa {post : Int32 → Prop} {w t tl : Nat → Int32} (hT : dm_Tl tl) (h : post (dm_A w)) : wpX_acrossTotal post (w, t, tl) :=
  dm_loop0 (fun n i s => wX_acrossTotal_4 post w t tl n s (nI i)) (dm_ag w) 12 post (fun n s hF => br_t (nI_le (Nat.le_refl 12) (by decide)) hF) (fun n i s hi hW => br_f (nI_ge (b := 12) hi (by decide)) (dm_xs hT (nm_e (nm_r (nI_1 i) hW)))) 0 h
theorem dm_ya {post : Int32 → Prop} {w o : Nat → Int32} (h : post (dm_A w)) : wpY_acrossTotal post (w, o) :=
  dm_loop0 (fun n i s => wY_acrossTotal_4 post w o n s (nI i)) (dm_ag w) 12 post (fun n s hF => br_t (nI_le (Nat.le_refl 12) (by decide)) hF) (fun n i s hi hW => br_f (nI_ge (b := 12) hi (by decide)) (dm_ys (nm_e (nm_r (nI_1 i) hW)))) 0 h
end
section
-- all weights at once
def dm_ug (x : Int32) (a : Nat → Int32) (i : Nat) : Nat → Int32 := upd a i x
def dm_U (x : Int32) (w : Nat → Int32) : Nat → Int32 := dm_fold (dm_ug x) 24 0 w
theorem dm_xe {post : SX → Prop} {w t tl : Nat → Int32} {x : Int32} (h : post (dm_U x w, t, tl)) : wpX_setEveryWeight post (w, t, tl) x :=
  dm_loop0 (fun n i s => wX_setEveryWeight_2 post x n (nI i) s t tl) (dm_ug x) 24 (fun s => post (s, t, tl)) (fun n s hF => br_t (nI_le (Nat.le_refl 24) (by decide)) hF) (fun n i s hi hW => br_f (nI_ge (b := 24) hi (by decide)) ⟨vp_in_nI hi (by decide), nm_r (e' := upd s i x) (by rw [nI_clamp (by omega)]) (nm_r (nI_1 i) hW)⟩) w h
theorem dm_ye {post : Int32 → SY → Prop} {w o : Nat → Int32} {x : Int32} (h : post 0 (dm_U x w, o)) : ∃ n, wY_all_14 post x n 0 w o :=
  dm_loop0 (fun n i s => wY_all_14 post x n (nI i) s o) (dm_ug x) 24 (fun s => post 0 (s, o)) (fun n s hF => br_t (nI_le (Nat.le_refl 24) (by decide)) hF) (fun n i s hi hW => br_f (nI_ge (b := 24) hi (by decide)) ⟨vp_in_nI hi (by decide), nm_r (e' := upd s i x) (by rw [nI_clamp (by omega)]) (nm_r (nI_1 i) hW)⟩) w h
theorem dm_yi {post : SY → Prop} (h : post (dm_U 1 (fun _ => 0), (fun _ => 0))) : wpY_init post :=
  dm_loop0 (fun n i s => wY_init_22 post n (nI i) s (fun _ => 0)) (dm_ug 1) 24 (fun s => post (s, (fun _ => 0))) (fun n s hF => br_t (nI_le (Nat.le_refl 24) (by decide)) hF) (fun n i s hi hW => br_f (nI_ge (b := 24) hi (by decide)) ⟨vp_in_nI hi (by decide), nm_r (e' := upd s i 1) (by rw [nI_clamp (by omega)]) (nm_r (nI_1 i) hW)⟩) (fun _ => 0) h
-- the class finds the tilings
theorem dm_ft {post : SX → Prop} {w t : Nat → Int32} (h : ∀ tl, dm_Tl tl → post (w, t, tl)) : ∀ (d c : Nat) (tl : Nat → Int32), c + d = 256 → (∀ j, j < dm_cnt c → tl j = dm_L j) → wX_findTilings_4 post (d + 1) (nI (dm_cnt c)) (nI c) w t tl := by
  intro d
  induction d with
  | zero =>
    intro c tl e hI
    have e1 : c = 256 := by omega
    subst e1
    rw [dm_F5] at hI
    exact br_t (nI_le (Nat.le_refl 256) (by decide)) (h tl hI)
  | succ d ih =>
    intro c tl e hI
    have le := dm_F4 c (by omega)
    refine br_f (nI_ge (b := 256) (by omega) (by decide)) ?_
    by_cases k : 36 ≤ dm_cnt c
    · exact br_t (nI_le k (by omega)) (h tl (fun j hj => hI j (by omega)))
    · refine br_f (nI_ge (b := 36) (by omega) (by decide)) (dm_tx (by omega) ?_)
      by_cases z : dm_T c = 0
      · have ec : dm_cnt (c + 1) = dm_cnt c := if_pos z
        have q := ih (c + 1) tl (by omega) (by rw [ec]; exact hI)
        rw [ec] at q
        exact br_t z (nm_r (nI_1 c) q)
      · have ec : dm_cnt (c + 1) = dm_cnt c + 1 := if_neg z
        have q := ih (c + 1) (upd tl (dm_cnt c) (dm_T c)) (by omega) (by
          rw [ec]
          intro j hj
          by_cases ej : j = dm_cnt c
          · subst ej; rw [pk_us]; exact (dm_Lc (by omega) z).symm
          · rw [pk_un ej]; exact hI j (by omega))
        rw [ec] at q
        exact br_f z ⟨vp_in_nI (by omega) (by decide), nm_r (e' := upd tl (dm_cnt c) (dm_T c)) (by rw [nI_clamp (by omega)]) (nm_r (nI_1 (dm_cnt c)) (nm_r (nI_1 c) q))⟩
theorem dm_xf {post : SX → Prop} {w t tl : Nat → Int32} (h : ∀ tl, dm_Tl tl → post (w, t, tl)) : wpX_findTilings post (w, t, tl) :=
  ⟨257, dm_ft h 256 0 tl rfl (fun j hj => absurd hj (Nat.not_lt_zero j))⟩
-- turn
def dm_sg (i : Nat) : Nat := if 12 ≤ i then ((i - 12) % 4) * 3 + (2 - (i - 12) / 4) else 12 + (i % 3) * 4 + (3 - i / 3)
theorem dm_G1 : ∀ i, i < 24 → (12 : Int32) ≤ nI i → (((nI i - 12) - (nI i - 12) / 4 * 4) * 3) + (2 - (nI i - 12) / 4) = nI (dm_sg i) := by decide +kernel
theorem dm_G2 : ∀ i, i < 24 → ¬ (12 : Int32) ≤ nI i → (12 + ((nI i - nI i / 3 * 3) * 4)) + (3 - nI i / 3) = nI (dm_sg i) := by decide +kernel
theorem dm_G3 : ∀ i, i < 24 → (12 : Int32) ≤ nI i → ((((nI i - 12) - (nI i - 12) / 4 * 4) * 3) + 2) - ((nI i - 12) / 4) = nI (dm_sg i) := by decide +kernel
theorem dm_G4 : ∀ i, i < 24 → ¬ (12 : Int32) ≤ nI i → ((12 + ((nI i - nI i / 3 * 3) * 4)) + 3) - (nI i / 3) = nI (dm_sg i) := by decide +kernel
theorem dm_G5 : ∀ i, i < 24 → dm_sg i < 24 := by decide +kernel
theorem dm_G6 : ∀ j, j < 24 → dm_sg (dm_sg (dm_sg (dm_sg j))) = j := by decide +kernel
theorem dm_pt {post : Int32 → Prop} {i : Nat} (hi : i < 24) (h : post (nI (dm_sg i))) : wpX_placeAfterTurn post (nI i) :=
  br_c (fun e => ⟨by decide, nm_e ⟨by decide, nm_e (by rw [dm_G1 i hi e]; exact h)⟩⟩) (fun e => ⟨by decide, nm_e ⟨by decide, nm_e (by rw [dm_G2 i hi e]; exact h)⟩⟩)
def dm_vg (f : Nat → Int32) (a : Nat → Int32) (i : Nat) : Nat → Int32 := upd a i (f i)
def dm_rg (f : Nat → Int32) (a : Nat → Int32) (i : Nat) : Nat → Int32 := upd a (dm_sg i) (f i)
def dm_R (w : Nat → Int32) : Nat → Int32 := dm_fold (dm_rg w) 24 0 w
theorem dm_vgA (f : Nat → Int32) : ∀ (d i : Nat) (a : Nat → Int32) (j : Nat), dm_fold (dm_vg f) d i a j = if i ≤ j ∧ j < i + d then f j else a j := by
  intro d
  induction d with
  | zero =>
    intro i a j
    rw [if_neg (by omega)]
    rfl
  | succ d ih =>
    intro i a j
    show dm_fold (dm_vg f) d (i + 1) (upd a i (f i)) j = _
    rw [ih]
    by_cases ej : j = i
    · subst ej
      rw [if_neg (by omega), if_pos (by omega), pk_us]
    · rw [pk_un ej]
      by_cases k : i + 1 ≤ j ∧ j < i + 1 + d
      · rw [if_pos k, if_pos (by omega)]
      · rw [if_neg k, if_neg (by omega)]
theorem dm_rgC (f : Nat → Int32) (j : Nat) : ∀ (d i : Nat) (a b : Nat → Int32), (a j = b j ∨ ∃ k, i ≤ k ∧ k < i + d ∧ dm_sg k = j) → dm_fold (dm_rg f) d i a j = dm_fold (dm_rg f) d i b j := by
  intro d
  induction d with
  | zero =>
    intro i a b h
    rcases h with h | ⟨k, h1, h2, _⟩
    · exact h
    · omega
  | succ d ih =>
    intro i a b h
    refine ih (i + 1) (upd a (dm_sg i) (f i)) (upd b (dm_sg i) (f i)) ?_
    by_cases e : j = dm_sg i
    · subst e
      exact Or.inl (by rw [pk_us, pk_us])
    · rcases h with h | ⟨k, h1, h2, h3⟩
      · exact Or.inl (by rw [pk_un e, pk_un e]; exact h)
      · refine Or.inr ⟨k, ?_, by omega, h3⟩
        by_cases ek : k = i
        · subst ek; exact absurd h3.symm e
        · omega
theorem dm_rgD (f : Nat → Int32) {j : Nat} (hj : 24 ≤ j) : ∀ (d i : Nat) (a : Nat → Int32), i + d ≤ 24 → dm_fold (dm_rg f) d i a j = a j := by
  intro d
  induction d with
  | zero => intro i a _; rfl
  | succ d ih =>
    intro i a h
    have q := dm_G5 i (by omega)
    have e := ih (i + 1) (upd a (dm_sg i) (f i)) (by omega)
    rw [pk_un (by omega)] at e
    exact e
theorem dm_RX (w t : Nat → Int32) : dm_fold (dm_vg (dm_fold (dm_rg w) 24 0 t)) 24 0 w = dm_R w := by
  funext j
  rw [dm_vgA]
  by_cases h : j < 24
  · rw [if_pos (by omega)]
    exact dm_rgC w j 24 0 t w (Or.inr ⟨dm_sg (dm_sg (dm_sg j)), Nat.zero_le _, by have := dm_G5 _ (dm_G5 _ (dm_G5 j h)); omega, dm_G6 j h⟩)
  · rw [if_neg (by omega)]
    exact (dm_rgD w (by omega) 24 0 w (by omega)).symm
theorem dm_RY (w o : Nat → Int32) : dm_fold (dm_rg (dm_fold (dm_vg w) 24 0 o)) 24 0 w = dm_R w :=
  dm_cong _ _ 24 (fun s i hi => by
    unfold dm_rg
    rw [dm_vgA, if_pos (by omega)]) 24 0 w (by decide)
theorem dm_xu {post : SX → Prop} {w t tl : Nat → Int32} (h : ∀ t', post (dm_R w, t', tl)) : wpX_turn post (w, t, tl) := by
  refine dm_loop0 (fun n i s => wX_turn_2 post n (nI i) w s tl) (dm_rg w) 24 (fun s => ∃ n, wX_turn_33 post n 0 w s tl) (fun n s hF => br_t (nI_le (Nat.le_refl 24) (by decide)) hF) (fun n i s hi hW => br_f (nI_ge (b := 24) hi (by decide)) (dm_pt hi ⟨vp_in_nI hi (by decide), vp_in_nI (dm_G5 i hi) (by decide), nm_r (e' := upd s (dm_sg i) (w i)) ?_ (nm_r (nI_1 i) hW)⟩)) t ?_
  · have q := dm_G5 i hi
    rw [nI_clamp (n := dm_sg i) (by omega), nI_clamp (n := i) (by omega)]
  · generalize et : dm_fold (dm_rg w) 24 0 t = t'
    refine dm_loop0 (fun n i s => wX_turn_33 post n (nI i) s t' tl) (dm_vg t') 24 (fun s => post (s, t', tl)) (fun n s hF => br_t (nI_le (Nat.le_refl 24) (by decide)) hF) (fun n i s hi hW => br_f (nI_ge (b := 24) hi (by decide)) ⟨vp_in_nI hi (by decide), vp_in_nI hi (by decide), nm_r (e' := upd s i (t' i)) (by rw [nI_clamp (by omega)]) (nm_r (nI_1 i) hW)⟩) w ?_
    have e := dm_RX w t
    rw [et] at e
    rw [e]
    exact h t'
theorem dm_yu {post : SY → Prop} {w o : Nat → Int32} (h : ∀ o', post (dm_R w, o')) : wpY_turn post (w, o) := by
  refine dm_loop0 (fun n i s => wY_turn_2 post n (nI i) w s) (dm_vg w) 24 (fun s => ∃ n, wY_turn_28 post n 0 w s) (fun n s hF => br_t (nI_le (Nat.le_refl 24) (by decide)) hF) (fun n i s hi hW => br_f (nI_ge (b := 24) hi (by decide)) ⟨vp_in_nI hi (by decide), vp_in_nI hi (by decide), nm_r (e' := upd s i (w i)) (by rw [nI_clamp (by omega)]) (nm_r (nI_1 i) hW)⟩) o ?_
  generalize eo : dm_fold (dm_vg w) 24 0 o = o'
  refine dm_loop0 (fun n i s => wY_turn_28 post n (nI i) s o') (dm_rg o') 24 (fun s => post (s, o')) (fun n s hF => br_t (nI_le (Nat.le_refl 24) (by decide)) hF) (fun n i s hi hW => br_f (nI_ge (b := 24) hi (by decide)) ?_) w ?_
  · have q := dm_G5 i hi
    refine br_c (fun e => ⟨by decide, by decide, vp_in_nI hi (by decide), ?_⟩) (fun e => ⟨by decide, by decide, vp_in_nI hi (by decide), ?_⟩)
    · rw [dm_G3 i hi e, nI_clamp (n := dm_sg i) (by omega), nI_clamp (n := i) (by omega)]
      exact ⟨vp_in_nI q (by decide), nm_e (nm_r (nI_1 i) hW)⟩
    · rw [dm_G4 i hi e, nI_clamp (n := dm_sg i) (by omega), nI_clamp (n := i) (by omega)]
      exact ⟨vp_in_nI q (by decide), nm_e (nm_r (nI_1 i) hW)⟩
  · have e := dm_RY w o
    rw [eo] at e
    rw [e]
    exact h o'
-- force
def dm_cv (p s : Int32) : Int32 := dm_con (dm_sq p) s
theorem dm_cvw {post : Int32 → Prop} {p s : Int32} (h : post (dm_cv p s)) : wpX_covers post p s := by
  unfold wpX_covers
  refine dm_sqw ?_
  exact br_c (fun e => ⟨rfl, (dm_ite (P := post) h).1 e⟩) (fun e => ⟨rfl, (dm_ite (P := post) h).2 e⟩)
def dm_fi (p : Int32) : Int32 := if 12 ≤ p then p - 12 else ((p / 3) * 4) + (p - p / 3 * 3)
def dm_yv (p s : Int32) : Int32 := if s = dm_fi p then 1 else if 12 ≤ p then (if s = dm_fi p + 4 then 1 else 0) else (if s = dm_fi p + 1 then 1 else 0)
theorem dm_fiw {post : Int32 → Prop} {w o : Nat → Int32} {p : Int32} (h : post (dm_fi p)) : wpY_first post (w, o) p :=
  br_c (fun e => (dm_ite (P := post) h).1 e) (fun e => ⟨by decide, by decide, (dm_ite (P := post) h).2 e⟩)
theorem dm_yvw {post : Int32 → Prop} {w o : Nat → Int32} {p s : Int32} (h : post (dm_yv p s)) : wpY_covers post (w, o) p s := by
  unfold wpY_covers
  dsimp only
  refine dm_fiw ?_
  refine br_c (fun e => (dm_ite (P := post) h).1 e) (fun e => ?_)
  have h2 := (dm_ite (P := post) h).2 e
  exact br_c (fun e2 => dm_ite (P := post) ((dm_ite (P := post) h2).1 e2)) (fun e2 => dm_ite (P := post) ((dm_ite (P := post) h2).2 e2))
theorem dm_H1 : ∀ i, i < 24 → ∀ s, s < 16 → dm_yv (nI i) (nI s) = dm_cv (nI i) (nI s) := by decide +kernel
def dm_fg (s pl : Int32) (a : Int32 × (Nat → Int32)) (i : Nat) : Int32 × (Nat → Int32) := if nI i = pl then a else if a.2 i = 0 then a else if dm_cv (nI i) s = 0 then a else (a.1 + 1, upd a.2 i 0)
theorem dm_fg1 {s pl : Int32} {a : Int32 × (Nat → Int32)} {i : Nat} (h : nI i = pl) : dm_fg s pl a i = a := if_pos h
theorem dm_fg2 {s pl : Int32} {a : Int32 × (Nat → Int32)} {i : Nat} (h : a.2 i = 0) : dm_fg s pl a i = a := by
  unfold dm_fg
  rw [if_pos h, ite_self]
theorem dm_fg3 {s pl : Int32} {a : Int32 × (Nat → Int32)} {i : Nat} (h : dm_cv (nI i) s = 0) : dm_fg s pl a i = a := by
  unfold dm_fg
  rw [if_pos h, ite_self, ite_self]
theorem dm_fg4 {s pl : Int32} {a : Int32 × (Nat → Int32)} {i : Nat} (h1 : ¬ nI i = pl) (h2 : ¬ a.2 i = 0) (h3 : ¬ dm_cv (nI i) s = 0) : dm_fg s pl a i = (a.1 + 1, upd a.2 i 0) := by
  unfold dm_fg
  rw [if_neg h1, if_neg h2, if_neg h3]
theorem dm_xo {post : Int32 → SX → Prop} {w t tl : Nat → Int32} {s pl : Int32} (h : post (dm_fold (dm_fg s pl) 24 0 (0, w)).1 ((dm_fold (dm_fg s pl) 24 0 (0, w)).2, t, tl)) : ∃ n, wX_force_29 post s pl n 0 0 w t tl := by
  refine dm_loop0 (fun n i a => wX_force_29 post s pl n a.1 (nI i) a.2 t tl) (dm_fg s pl) 24 (fun a => post a.1 (a.2, t, tl)) (fun n a hF => br_t (nI_le (Nat.le_refl 24) (by decide)) hF) (fun n i a hi hW => br_f (nI_ge (b := 24) hi (by decide)) (br_c (fun e1 => nm_r (nI_1 i) ?_) (fun e1 => ⟨vp_in_nI hi (by decide), ?_⟩))) (0, w) h
  · rw [dm_fg1 e1] at hW; exact hW
  · rw [nI_clamp (n := i) (by omega)]
    refine br_c (fun e2 => nm_r (nI_1 i) ?_) (fun e2 => dm_cvw (br_c (fun e3 => nm_r (nI_1 i) ?_) (fun e3 => ⟨vp_in_nI hi (by decide), nm_e (nm_e (nm_r (nI_1 i) ?_))⟩)))
    · rw [dm_fg2 e2] at hW; exact hW
    · rw [dm_fg3 e3] at hW; exact hW
    · rw [dm_fg4 e1 e2 e3] at hW; exact hW
theorem dm_yo {post : Int32 → SY → Prop} {w o : Nat → Int32} {pl : Int32} {s : Nat} (hs : s < 16) (h : post (dm_fold (dm_fg (nI s) pl) 24 0 (0, w)).1 ((dm_fold (dm_fg (nI s) pl) 24 0 (0, w)).2, o)) : ∃ n, wY_force_34 post (nI s) pl n 0 0 w o := by
  refine dm_loop0 (fun n i a => wY_force_34 post (nI s) pl n a.1 (nI i) a.2 o) (dm_fg (nI s) pl) 24 (fun a => post a.1 (a.2, o)) (fun n a hF => br_t (nI_le (Nat.le_refl 24) (by decide)) hF) (fun n i a hi hW => br_f (nI_ge (b := 24) hi (by decide)) (br_c (fun e1 => nm_r (nI_1 i) ?_) (fun e1 => dm_yvw ?_))) (0, w) h
  · rw [dm_fg1 e1] at hW; exact hW
  · rw [nI_clamp (n := i) (by omega), dm_H1 i hi s hs]
    refine br_c (fun e3 => nm_r (nI_1 i) ?_) (fun e3 => ⟨vp_in_nI hi (by decide), br_c (fun e2 => nm_r (nI_1 i) ?_) (fun e2 => ⟨vp_in_nI hi (by decide), nm_e (nm_e (nm_r (nI_1 i) ?_))⟩)⟩)
    · rw [dm_fg3 e3] at hW; exact hW
    · rw [dm_fg2 e2] at hW; exact hW
    · rw [dm_fg4 e1 e2 e3] at hW; exact hW
end
section
/-- the weights of both sides are one function; the class holds the 36 tilings -/
def i_Rel (k : Nat) (u : SX) (v : SY) : Prop := u.1 = v.1 ∧ dm_Tl u.2.2
theorem i_up {k : Nat} {u : SX} {v : SY} (h : i_Rel k u v) : i_Rel (k + 3) u v := h
theorem i_vc0 : wpX_init (fun u => wpY_init (fun v => i_Rel 0 u v)) := by
  unfold wpX_init
  refine dm_xe ?_
  dsimp only
  refine dm_xf (fun tl hT => ?_)
  exact dm_yi ⟨rfl, hT⟩
theorem i_vc_weight {k : Nat} {u : SX} {v : SY} (I : i_Rel k u v) (hk : k + 3 ≤ 1536) (v1 : Int32) (v2 : Int32) : wpX_weight (fun r u' => wpY_weight (fun r' v' => r' = r ∧ i_Rel (k + 3) u' v') v v1 v2) u v1 v2 := by
  obtain ⟨w, t, tl⟩ := u
  obtain ⟨w', o⟩ := v
  obtain ⟨ew, hT⟩ := I
  change w = w' at ew
  subst ew
  unfold wpX_weight wpY_weight
  dsimp only
  rcases pk_ix v1 (n := 24) (by decide) with h | h | ⟨j, hj, rfl⟩
  · exact dm_plN (Or.inl h) (br_t rfl (dm_bdN (Or.inl h) (br_f (by decide) ⟨rfl, rfl, hT⟩)))
  · exact dm_plN (Or.inr h) (br_t rfl (dm_bdN (Or.inr h) (br_f (by decide) ⟨rfl, rfl, hT⟩)))
  · refine dm_plY hj (br_f (by decide) ?_)
    rcases dm_wt v2 with h | ⟨h0, h4, h4'⟩
    · exact dm_wtN h (br_t rfl (dm_bdY hj (br_t rfl (dm_ywN h ⟨rfl, rfl, hT⟩))))
    · have hi : vp_in (nI j) 24 := vp_in_nI hj (by decide)
      exact dm_wtY h0 h4 (br_f (by decide) ⟨hi, nm_e ⟨hi, nm_e (dm_bdY hj (br_t rfl (br_f h0 (br_t h4' ⟨hi, nm_e ⟨hi, nm_e ⟨rfl, rfl, hT⟩⟩⟩))))⟩⟩)
theorem i_vc_all {k : Nat} {u : SX} {v : SY} (I : i_Rel k u v) (hk : k + 3 ≤ 1536) (v1 : Int32) : wpX_all (fun r u' => wpY_all (fun r' v' => r' = r ∧ i_Rel (k + 3) u' v') v v1) u v1 := by
  obtain ⟨w, t, tl⟩ := u
  obtain ⟨w', o⟩ := v
  obtain ⟨ew, hT⟩ := I
  change w = w' at ew
  subst ew
  unfold wpX_all wpY_all
  dsimp only
  rcases dm_wt v1 with h | ⟨h0, h4, h4'⟩
  · exact dm_wtN h (br_t rfl (dm_ywN h ⟨rfl, rfl, hT⟩))
  · exact dm_wtY h0 h4 (br_f (by decide) (dm_xe (br_f h0 (br_t h4' (dm_ye ⟨rfl, rfl, hT⟩)))))
theorem i_vc_turn {k : Nat} {u : SX} {v : SY} (I : i_Rel k u v) (hk : k + 3 ≤ 1536) : wpX_turn (fun u' => wpY_turn (fun v' => i_Rel (k + 3) u' v') v) u := by
  obtain ⟨w, t, tl⟩ := u
  obtain ⟨w', o⟩ := v
  obtain ⟨ew, hT⟩ := I
  change w = w' at ew
  subst ew
  exact dm_xu (fun t' => dm_yu (fun o' => ⟨rfl, hT⟩))
theorem i_vc_force {k : Nat} {u : SX} {v : SY} (I : i_Rel k u v) (hk : k + 3 ≤ 1536) (v1 : Int32) (v2 : Int32) : wpX_force (fun r u' => wpY_force (fun r' v' => r' = r ∧ i_Rel (k + 3) u' v') v v1 v2) u v1 v2 := by
  obtain ⟨w, t, tl⟩ := u
  obtain ⟨w', o⟩ := v
  obtain ⟨ew, hT⟩ := I
  change w = w' at ew
  subst ew
  unfold wpX_force wpY_force
  dsimp only
  rcases pk_ix v2 (n := 24) (by decide) with h | h | ⟨j, hj, rfl⟩
  · exact dm_plN (Or.inl h) (br_t rfl (dm_bdN (Or.inl h) (br_f (by decide) ⟨rfl, rfl, hT⟩)))
  · exact dm_plN (Or.inr h) (br_t rfl (dm_bdN (Or.inr h) (br_f (by decide) ⟨rfl, rfl, hT⟩)))
  · refine dm_plY hj (br_f (by decide) ?_)
    rcases pk_ix v1 (n := 16) (by decide) with h | h | ⟨s, hs, rfl⟩
    · exact br_t h (br_t rfl (dm_bdY hj (br_t rfl (br_t h ⟨rfl, rfl, hT⟩))))
    · have h0 : ¬ v1 < 0 := fun z => Int32.not_lt.mpr (Int32.le_trans (by decide) h) z
      have h15 : 15 < v1 := Int32.lt_of_lt_of_le (by decide) h
      exact br_f h0 (br_t h (br_t rfl (dm_bdY hj (br_t rfl (br_f h0 (br_t h15 ⟨rfl, rfl, hT⟩))))))
    · have h0 : ¬ nI s < 0 := nI_pos (by omega)
      have h15 : ¬ (15 : Int32) < nI s := nI_nlt (b := s) (a := 15) (by omega) (by decide)
      refine br_f h0 (br_f (nI_ge (b := 16) hs (by decide)) (br_f (by decide) (dm_cvw ?_)))
      by_cases c : dm_cv (nI j) (nI s) = 0
      · exact br_t c (dm_bdY hj (br_t rfl (br_f h0 (br_f h15 (dm_yvw (by rw [dm_H1 j hj s hs]; exact br_t c ⟨rfl, rfl, hT⟩))))))
      · exact br_f c (dm_xo (dm_bdY hj (br_t rfl (br_f h0 (br_f h15 (dm_yvw (by rw [dm_H1 j hj s hs]; exact br_f c (dm_yo hs ⟨rfl, rfl, hT⟩))))))))
theorem i_vc_weightOf {k : Nat} {u : SX} {v : SY} (I : i_Rel k u v) (hk : k + 3 ≤ 1536) (v1 : Int32) : wpX_weightOf (fun r => wpY_weightOf (fun r' => r' = r ∧ i_Rel (k + 3) u v) v v1) u v1 := by
  obtain ⟨w, t, tl⟩ := u
  obtain ⟨w', o⟩ := v
  obtain ⟨ew, hT⟩ := I
  change w = w' at ew
  subst ew
  unfold wpX_weightOf wpY_weightOf
  dsimp only
  rcases pk_ix v1 (n := 24) (by decide) with h | h | ⟨j, hj, rfl⟩
  · exact dm_plN (Or.inl h) (br_t rfl (dm_bdN (Or.inl h) (br_f (by decide) ⟨rfl, rfl, hT⟩)))
  · exact dm_plN (Or.inr h) (br_t rfl (dm_bdN (Or.inr h) (br_f (by decide) ⟨rfl, rfl, hT⟩)))
  · exact dm_plY hj (br_f (by decide) ⟨vp_in_nI hj (by decide), dm_bdY hj (br_t rfl ⟨vp_in_nI hj (by decide), rfl, rfl, hT⟩)⟩)
theorem i_vc_total {k : Nat} {u : SX} {v : SY} (I : i_Rel k u v) (hk : k + 3 ≤ 1536) : wpX_total (fun r => wpY_total (fun r' => r' = r ∧ i_Rel (k + 3) u v) v) u := by
  obtain ⟨w, t, tl⟩ := u
  obtain ⟨w', o⟩ := v
  obtain ⟨ew, hT⟩ := I
  change w = w' at ew
  subst ew
  unfold wpX_total wpY_total
  dsimp only
  exact dm_xs hT (dm_ys ⟨rfl, rfl, hT⟩)
theorem i_vc_totalWith {k : Nat} {u : SX} {v : SY} (I : i_Rel k u v) (hk : k + 3 ≤ 1536) (v1 : Int32) : wpX_totalWith (fun r => wpY_totalWith (fun r' => r' = r ∧ i_Rel (k + 3) u v) v v1) u v1 := by
  obtain ⟨w, t, tl⟩ := u
  obtain ⟨w', o⟩ := v
  obtain ⟨ew, hT⟩ := I
  change w = w' at ew
  subst ew
  unfold wpX_totalWith wpY_totalWith
  dsimp only
  rcases pk_ix v1 (n := 24) (by decide) with h | h | ⟨j, hj, rfl⟩
  · exact dm_plN (Or.inl h) (br_t rfl (dm_bdN (Or.inl h) (br_f (by decide) ⟨rfl, rfl, hT⟩)))
  · exact dm_plN (Or.inr h) (br_t rfl (dm_bdN (Or.inr h) (br_f (by decide) ⟨rfl, rfl, hT⟩)))
  · exact dm_plY hj (br_f (by decide) (dm_xs hT (dm_bdY hj (br_t rfl (dm_ys ⟨rfl, rfl, hT⟩)))))
theorem i_vc_totalWithBoth {k : Nat} {u : SX} {v : SY} (I : i_Rel k u v) (hk : k + 3 ≤ 1536) (v1 : Int32) (v2 : Int32) : wpX_totalWithBoth (fun r => wpY_totalWithBoth (fun r' => r' = r ∧ i_Rel (k + 3) u v) v v1 v2) u v1 v2 := by
  obtain ⟨w, t, tl⟩ := u
  obtain ⟨w', o⟩ := v
  obtain ⟨ew, hT⟩ := I
  change w = w' at ew
  subst ew
  unfold wpX_totalWithBoth wpY_totalWithBoth
  dsimp only
  rcases pk_ix v1 (n := 24) (by decide) with h | h | ⟨j, hj, rfl⟩
  · exact dm_plN (Or.inl h) (br_t rfl (dm_bdN (Or.inl h) (br_f (by decide) ⟨rfl, rfl, hT⟩)))
  · exact dm_plN (Or.inr h) (br_t rfl (dm_bdN (Or.inr h) (br_f (by decide) ⟨rfl, rfl, hT⟩)))
  · refine dm_plY hj (br_f (by decide) ?_)
    rcases pk_ix v2 (n := 24) (by decide) with h | h | ⟨i, hi, rfl⟩
    · exact dm_plN (Or.inl h) (br_t rfl (dm_bdY hj (br_t rfl (dm_bdN (Or.inl h) (br_f (by decide) ⟨rfl, rfl, hT⟩)))))
    · exact dm_plN (Or.inr h) (br_t rfl (dm_bdY hj (br_t rfl (dm_bdN (Or.inr h) (br_f (by decide) ⟨rfl, rfl, hT⟩)))))
    · exact dm_plY hi (br_f (by decide) (dm_xs hT (dm_bdY hj (br_t rfl (dm_bdY hi (br_t rfl (dm_ys ⟨rfl, rfl, hT⟩)))))))
theorem i_vc_possible {k : Nat} {u : SX} {v : SY} (I : i_Rel k u v) (hk : k + 3 ≤ 1536) : wpX_possible (fun r => wpY_possible (fun r' => r' = r ∧ i_Rel (k + 3) u v) v) u := by
  obtain ⟨w, t, tl⟩ := u
  obtain ⟨w', o⟩ := v
  obtain ⟨ew, hT⟩ := I
  change w = w' at ew
  subst ew
  exact dm_xp hT (dm_yp ⟨rfl, rfl, hT⟩)
theorem i_vc_canUse {k : Nat} {u : SX} {v : SY} (I : i_Rel k u v) (hk : k + 3 ≤ 1536) (v1 : Int32) : wpX_canUse (fun r => wpY_canUse (fun r' => r' = r ∧ i_Rel (k + 3) u v) v v1) u v1 := by
  obtain ⟨w, t, tl⟩ := u
  obtain ⟨w', o⟩ := v
  obtain ⟨ew, hT⟩ := I
  change w = w' at ew
  subst ew
  unfold wpX_canUse wpY_canUse
  dsimp only
  rcases pk_ix v1 (n := 24) (by decide) with h | h | ⟨j, hj, rfl⟩
  · exact dm_plN (Or.inl h) (br_t rfl (dm_bdN (Or.inl h) (br_f (by decide) ⟨rfl, rfl, hT⟩)))
  · exact dm_plN (Or.inr h) (br_t rfl (dm_bdN (Or.inr h) (br_f (by decide) ⟨rfl, rfl, hT⟩)))
  · exact dm_plY hj (br_f (by decide) (dm_xs hT (br_c (fun e => dm_bdY hj (br_t rfl (dm_ys (br_t e ⟨rfl, rfl, hT⟩)))) (fun e => dm_bdY hj (br_t rfl (dm_ys (br_f e ⟨rfl, rfl, hT⟩)))))))
theorem i_vc_settled {k : Nat} {u : SX} {v : SY} (I : i_Rel k u v) (hk : k + 3 ≤ 1536) : wpX_settled (fun r => wpY_settled (fun r' => r' = r ∧ i_Rel (k + 3) u v) v) u := by
  obtain ⟨w, t, tl⟩ := u
  obtain ⟨w', o⟩ := v
  obtain ⟨ew, hT⟩ := I
  change w = w' at ew
  subst ew
  exact dm_xt hT (dm_yt ⟨rfl, rfl, hT⟩)
theorem i_vc_acrossTotal {k : Nat} {u : SX} {v : SY} (I : i_Rel k u v) (hk : k + 3 ≤ 1536) : wpX_acrossTotal (fun r => wpY_acrossTotal (fun r' => r' = r ∧ i_Rel (k + 3) u v) v) u := by
  obtain ⟨w, t, tl⟩ := u
  obtain ⟨w', o⟩ := v
  obtain ⟨ew, hT⟩ := I
  change w = w' at ew
  subst ew
  exact dm_xa hT (dm_ya ⟨rfl, rfl, hT⟩)
end
