section
-- pasted from kit/rows/PURE-ROWS: the five pk_ rows
theorem pk_us {f : Nat → Int32} {k : Nat} {x : Int32} : upd f k x k = x := if_pos rfl
theorem pk_un {f : Nat → Int32} {k j : Nat} {x : Int32} (h : j ≠ k) : upd f k x j = f j := if_neg h
theorem pk_ix (x : Int32) {n : Nat} (hn : n < 2 ^ 31) : x < 0 ∨ nI n ≤ x ∨ ∃ j : Nat, j < n ∧ x = nI j := by
  by_cases h : x < 0
  · exact Or.inl h
  · obtain ⟨j, hj, rfl⟩ := nI_of h
    by_cases h2 : j < n
    · exact Or.inr (Or.inr ⟨j, h2, rfl⟩)
    · exact Or.inr (Or.inl (nI_le (by omega) hj))
theorem pk_and (x : Int32) {m : Int32} (k : Nat) (hm : m.toBitVec.toNat = 2 ^ k - 1) : x &&& m = nI (x.toBitVec.toNat % 2 ^ k) := by
  apply Int32.toBitVec_inj.mp
  apply BitVec.eq_of_toNat_eq
  rw [Int32.toBitVec_and, BitVec.toNat_and, hm, Nat.and_two_pow_sub_one_eq_mod]
  show _ = (BitVec.ofNat 32 _).toNat
  rw [BitVec.toNat_ofNat]
  exact (Nat.mod_eq_of_lt (Nat.lt_of_le_of_lt (Nat.mod_le _ _) x.toBitVec.isLt)).symm
theorem pk_andE (x : Int32) {m : Int32} (k : Nat) (hm : m.toBitVec.toNat = 2 ^ k - 1) : ∃ j : Nat, j < 2 ^ k ∧ x &&& m = nI j := ⟨_, Nat.mod_lt _ (Nat.two_pow_pos k), pk_and x k hm⟩
/-- a counted loop's value: g at i, i + 1, .. (d steps) -/
def dm_fold {σ : Type} (g : σ → Nat → σ) : Nat → Nat → σ → σ
  | 0, _, s => s
  | d + 1, i, s => dm_fold g d (i + 1) (g s i)
theorem dm_loop {σ : Type} (W : Nat → Nat → σ → Prop) (g : σ → Nat → σ) (e : Nat) (F : σ → Prop) (hx : ∀ n s, F s → W (n + 1) e s) (hs : ∀ n i s, i < e → W n (i + 1) (g s i) → W (n + 1) i s) : ∀ d i s, i + d = e → F (dm_fold g d i s) → W (d + 1) i s := by
  intro d
  induction d with
  | zero =>
    intro i s h hF
    have e1 : i = e := by omega
    subst e1
    exact hx 0 s hF
  | succ d ih =>
    intro i s h hF
    exact hs (d + 1) i s (by omega) (ih (i + 1) (g s i) (by omega) hF)
theorem dm_loop0 {σ : Type} (W : Nat → Nat → σ → Prop) (g : σ → Nat → σ) (e : Nat) (F : σ → Prop) (hx : ∀ n s, F s → W (n + 1) e s) (hs : ∀ n i s, i < e → W n (i + 1) (g s i) → W (n + 1) i s) (s : σ) (h : F (dm_fold g e 0 s)) : ∃ n, W n 0 s :=
  ⟨e + 1, dm_loop W g e F hx hs e 0 s (Nat.zero_add e) h⟩
theorem dm_cong {σ : Type} (g g' : σ → Nat → σ) (e : Nat) (h : ∀ s i, i < e → g s i = g' s i) : ∀ d i s, i + d ≤ e → dm_fold g d i s = dm_fold g' d i s := by
  intro d
  induction d with
  | zero => intro i s _; rfl
  | succ d ih =>
    intro i s hi
    show dm_fold g d (i + 1) (g s i) = dm_fold g' d (i + 1) (g' s i)
    rw [h s i (by omega)]
    exact ih (i + 1) _ (by omega)
/-- an answer that is there and satisfies post -/
def dm_ok (post : Int32 → Prop) : Option Int32 → Prop
  | none => False
  | some r => post r
theorem dm_br {post : Int32 → Prop} {c : Prop} [Decidable c] {a b : Option Int32} {A B : Prop} (h : dm_ok post (if c then a else b)) (ha : dm_ok post a → A) (hb : dm_ok post b → B) : (c → A) ∧ (¬ c → B) :=
  ⟨fun e => ha (by rw [if_pos e] at h; exact h), fun e => hb (by rw [if_neg e] at h; exact h)⟩
theorem dm_ite {P : Int32 → Prop} {c : Prop} [Decidable c] {a b : Int32} (h : P (if c then a else b)) : (c → P a) ∧ (¬ c → P b) :=
  ⟨fun e => by rw [if_pos e] at h; exact h, fun e => by rw [if_neg e] at h; exact h⟩
def dm_con (p m : Int32) : Int32 := if ((p >>> (m &&& 31)) &&& 1) = 1 then 1 else 0
def dm_up (s : Int32) : Int32 := if 12 ≤ s then (-1) else 12 + s
def dm_ac (s : Int32) : Int32 := if 3 ≤ s - s / 4 * 4 then (-1) else ((s / 4) * 3) + (s - s / 4 * 4)
def dm_sq (p : Int32) : Int32 := if 12 ≤ p then (((1 : Int32) <<< ((p - 12) &&& 31)) ||| ((1 : Int32) <<< (((p - 12) + 4) &&& 31))) else (((1 : Int32) <<< ((((p / 3) * 4) + (p - p / 3 * 3)) &&& 31)) ||| ((1 : Int32) <<< (((((p / 3) * 4) + (p - p / 3 * 3)) + 1) &&& 31)))
def dm_X49 (J : Int32 → Int32 → Int32 → Int32 → Option Int32) (x1 x2 x3 x4 z : Int32) : Option Int32 :=
  if z = (-1) then some 0 else if (x2 &&& dm_sq z) = 0 then J (x1 >>> ((1 : Int32) &&& 31)) (x2 ||| dm_sq z) (x3 ||| ((1 : Int32) <<< (z &&& 31))) (x4 + 1) else some 0
/-- the class's search for the tiling of a number of choices -/
def dm_fX : Nat → Int32 → Int32 → Int32 → Int32 → Option Int32
  | 0 => fun _ _ _ _ => none
  | n + 1 => fun x1 x2 x3 x4 => if 16 ≤ x4 then some x3 else if dm_con x2 x4 = 0 then (if dm_con x1 0 = 0 then dm_X49 (dm_fX n) x1 x2 x3 x4 (dm_ac x4) else dm_X49 (dm_fX n) x1 x2 x3 x4 (dm_up x4)) else dm_fX n x1 x2 x3 (x4 + 1)
def dm_fo (x1 : Int32) : Nat → Int32 → Option Int32
  | 0 => fun _ => none
  | n + 1 => fun x2 => if 16 ≤ x2 then some 16 else if ((x1 >>> (x2 &&& 31)) &&& 1) = 0 then some x2 else dm_fo x1 n (x2 + 1)
def dm_then (o : Option Int32) (f : Int32 → Option Int32) : Option Int32 := match o with
  | none => none
  | some r => f r
def dm_Y76 (J : Int32 → Int32 → Int32 → Option Int32) (x2 x3 x4 x5 x6 x7 : Int32) : Option Int32 :=
  if ((x2 >>> (x7 &&& 31)) &&& 1) = 1 then some 0 else if x6 = 0 then J ((x2 ||| ((1 : Int32) <<< (x5 &&& 31))) ||| ((1 : Int32) <<< (x7 &&& 31))) (x3 ||| ((1 : Int32) <<< ((((x5 / 4) * 3) + (x5 - x5 / 4 * 4)) &&& 31))) (x4 + 1) else J ((x2 ||| ((1 : Int32) <<< (x5 &&& 31))) ||| ((1 : Int32) <<< (x7 &&& 31))) (x3 ||| ((1 : Int32) <<< ((12 + x5) &&& 31))) (x4 + 1)
def dm_Y54 (J : Int32 → Int32 → Int32 → Option Int32) (x2 x3 x4 x5 x6 z0 : Int32) : Option Int32 :=
  if 15 < z0 then some 0 else if x6 = 0 then (if (x5 - x5 / 4 * 4) = 3 then some 0 else dm_Y76 J x2 x3 x4 x5 x6 z0) else dm_Y76 J x2 x3 x4 x5 x6 z0
def dm_Y36 (J : Int32 → Int32 → Int32 → Option Int32) (x2 x3 x4 x5 z0 : Int32) : Option Int32 :=
  if z0 = 0 then dm_Y54 J x2 x3 x4 x5 z0 (x5 + 1) else dm_Y54 J x2 x3 x4 x5 z0 (x5 + 4)
/-- the reference's search -/
def dm_fY (x1 : Int32) : Nat → Int32 → Int32 → Int32 → Option Int32
  | 0 => fun _ _ _ => none
  | n + 1 => fun x2 x3 x4 => if 8 ≤ x4 then some x3 else dm_then (dm_fo x2 17 0) (fun r => if ((x1 >>> (x4 &&& 31)) &&& 1) = 1 then dm_Y36 (dm_fY x1 n) x2 x3 x4 r 1 else dm_Y36 (dm_fY x1 n) x2 x3 x4 r 0)
/-- the tiling of each of the 256 numbers of choices, 0 where there is none -/
def dm_tab : List Nat := [
  2925, 0, 0, 15204, 0, 39762, 52041, 0, 0, 0, 0, 0, 199461, 0, 0, 64320, 0, 0, 0, 0, 592533, 0, 0, 0,
  789069, 0, 0, 801348, 0, 0, 248577, 0, 0, 0, 0, 0, 0, 0, 0, 0, 0, 0, 0, 0, 0, 0, 0, 0,
  3148077, 0, 0, 3160356, 0, 3184914, 3197193, 0, 0, 0, 0, 0, 985605, 0, 0, 3209472, 0, 0, 0, 0, 0, 0, 0, 0,
  0, 0, 0, 0, 0, 0, 0, 0, 9438381, 0, 0, 9450660, 0, 9475218, 9487497, 0, 0, 0, 0, 0, 0, 0, 0, 9499776,
  12583533, 0, 0, 12595812, 0, 12620370, 12632649, 0, 0, 0, 0, 0, 12780069, 0, 0, 12644928, 0, 0, 0, 0, 0, 0, 0, 0,
  3934221, 0, 0, 3946500, 0, 9868290, 12829185, 0, 0, 0, 0, 0, 0, 0, 0, 0, 0, 0, 0, 0, 0, 0, 0, 0,
  0, 0, 0, 0, 0, 0, 0, 0, 0, 0, 0, 0, 0, 0, 0, 0, 0, 0, 0, 0, 0, 0, 0, 0,
  0, 0, 0, 0, 0, 0, 0, 0, 0, 0, 0, 0, 0, 0, 0, 0, 0, 0, 0, 0, 0, 0, 0, 0,
  0, 0, 0, 0, 0, 0, 0, 0, 0, 0, 0, 0, 0, 0, 0, 0, 0, 0, 0, 0, 0, 0, 0, 0,
  0, 0, 0, 0, 0, 0, 0, 0, 0, 0, 0, 0, 0, 0, 0, 0, 0, 0, 0, 0, 0, 0, 0, 0,
  15728685, 0, 0, 15740964, 0, 15765522, 15777801, 0, 0, 0, 0, 0, 0, 0, 0, 15790080]
def dm_lst : List Nat := [
  2925, 15204, 39762, 52041, 199461, 64320, 592533, 789069, 801348, 248577, 3148077, 3160356,
  3184914, 3197193, 985605, 3209472, 9438381, 9450660, 9475218, 9487497, 9499776, 12583533, 12595812, 12620370,
  12632649, 12780069, 12644928, 3934221, 3946500, 9868290, 12829185, 15728685, 15740964, 15765522, 15777801, 15790080]
def dm_T (c : Nat) : Int32 := nI (dm_tab.getD c 0)
def dm_L (j : Nat) : Int32 := nI (dm_lst.getD j 0)
def dm_cnt : Nat → Nat
  | 0 => 0
  | c + 1 => if dm_T c = 0 then dm_cnt c else dm_cnt c + 1
set_option maxRecDepth 20000 in
theorem dm_F1 : ∀ c, c < 256 → dm_fX 17 (nI c) 0 0 0 = some (dm_T c) := by decide +kernel
set_option maxRecDepth 20000 in
theorem dm_F2 : ∀ c, c < 256 → dm_fY (nI c) 9 0 0 0 = some (dm_T c) := by decide +kernel
set_option maxRecDepth 20000 in
theorem dm_F3 : ∀ c, c < 256 → dm_T c = 0 ∨ dm_L (dm_cnt c) = dm_T c := by decide +kernel
set_option maxRecDepth 20000 in
theorem dm_F4 : ∀ c, c < 257 → dm_cnt c ≤ 36 := by decide +kernel
set_option maxRecDepth 20000 in
theorem dm_F5 : dm_cnt 256 = 36 := by decide +kernel
/-- a fold over the 256 that passes over the empty ones is the fold over the 36 -/
theorem dm_sel {σ : Type} (gX gY : σ → Nat → σ) (h0 : ∀ s c, c < 256 → dm_T c = 0 → gY s c = s) (h1 : ∀ s c, c < 256 → ¬ dm_T c = 0 → gY s c = gX s (dm_cnt c)) : ∀ d c s, c + d = 256 → dm_fold gY d c s = dm_fold gX (36 - dm_cnt c) (dm_cnt c) s := by
  intro d
  induction d with
  | zero =>
    intro c s h
    have e1 : c = 256 := by omega
    subst e1
    rw [dm_F5]
    rfl
  | succ d ih =>
    intro c s h
    show dm_fold gY d (c + 1) (gY s c) = _
    rw [ih (c + 1) _ (by omega)]
    by_cases z : dm_T c = 0
    · have ec : dm_cnt (c + 1) = dm_cnt c := if_pos z
      rw [h0 s c (by omega) z, ec]
    · have ec : dm_cnt (c + 1) = dm_cnt c + 1 := if_neg z
      have le := dm_F4 (c + 1) (by omega)
      rw [ec] at le
      have e2 : 36 - dm_cnt c = (36 - (dm_cnt c + 1)) + 1 := by omega
      rw [h1 s c (by omega) z, ec, e2]
      rfl
end
section
theorem dm_conw {post : Int32 → Prop} {p m : Int32} (h : post (dm_con p m)) : wpX_contains post p m := dm_ite (P := post) h
theorem dm_conb {A B : Prop} {p m : Int32} (hb : ((p >>> (m &&& 31)) &&& 1) = 1 → B) (ha : ¬ ((p >>> (m &&& 31)) &&& 1) = 1 → A) : wpX_contains (fun r => (r = 0 → A) ∧ (¬ r = 0 → B)) p m :=
  br_c (fun e => br_f (by decide) (hb e)) (fun e => br_t rfl (ha e))
theorem dm_upw {post : Int32 → Prop} {p : Int32} (h : post (dm_up p)) : wpX_uprightFrom post p := dm_ite (P := post) h
theorem dm_acw {post : Int32 → Prop} {p : Int32} (h : post (dm_ac p)) : wpX_acrossFrom post p :=
  ⟨by decide, nm_e ⟨by decide, nm_e (dm_ite (P := post) h)⟩⟩
theorem dm_sqw {post : Int32 → Prop} {p : Int32} (h : post (dm_sq p)) : wpX_squaresOf post p :=
  br_c (fun e => nm_e ((dm_ite (P := post) h).1 e)) (fun e => ⟨by decide, by decide, nm_e ((dm_ite (P := post) h).2 e)⟩)
theorem dm_X49w {post : Int32 → Prop} {J : Int32 → Int32 → Int32 → Int32 → Option Int32} {J9 : Int32 → Int32 → Int32 → Int32 → Prop} {x1 x2 x3 x4 z : Int32} (HJ : ∀ a b c d, dm_ok post (J a b c d) → J9 a b c d) (h : dm_ok post (dm_X49 J x1 x2 x3 x4 z)) : wX_tilingOfChoices_49 post J9 x1 x2 x3 x4 z :=
  nm_e (dm_br h (fun h => h) (fun h => dm_sqw (dm_br h (fun h => nm_e (nm_e (nm_e (HJ _ _ _ _ h)))) (fun h => h))))
theorem dm_fXw {post : Int32 → Prop} : ∀ (n : Nat) (x1 x2 x3 x4 : Int32), dm_ok post (dm_fX n x1 x2 x3 x4) → wX_tilingOfChoices_9 post n x1 x2 x3 x4 := by
  intro n
  induction n with
  | zero => intro x1 x2 x3 x4 h; exact h
  | succ n ih =>
    intro x1 x2 x3 x4 h
    refine dm_br h (fun h => h) (fun h => dm_conw ?_)
    refine dm_br h (fun h => dm_conw ?_) (fun h => nm_e (ih _ _ _ _ h))
    exact dm_br h (fun h => dm_acw (dm_X49w ih h)) (fun h => dm_upw (dm_X49w ih h))
theorem dm_tx {post : Int32 → Prop} {c : Nat} (hc : c < 256) (h : post (dm_T c)) : wpX_tilingOfChoices post (nI c) :=
  ⟨17, dm_fXw 17 (nI c) 0 0 0 (by rw [dm_F1 c hc]; exact h)⟩
theorem dm_okt {post : Int32 → Prop} {o : Option Int32} {f : Int32 → Option Int32} (h : dm_ok post (dm_then o f)) : dm_ok (fun r => dm_ok post (f r)) o := by
  cases o with
  | none => exact h
  | some r => exact h
theorem dm_fow {post : Int32 → Prop} {w o : Nat → Int32} {x1 : Int32} : ∀ (n : Nat) (x2 : Int32), dm_ok post (dm_fo x1 n x2) → wY_firstOpen_2 post x1 w o n x2 := by
  intro n
  induction n with
  | zero => intro x2 h; exact h
  | succ n ih =>
    intro x2 h
    exact dm_br h (fun h => h) (fun h => dm_br h (fun h => h) (fun h => nm_e (ih _ h)))
theorem dm_Y76w {post : Int32 → Prop} {J : Int32 → Int32 → Int32 → Option Int32} {J7 : Int32 → Int32 → Int32 → Prop} {w o : Nat → Int32} {x1 x2 x3 x4 x5 x6 x7 : Int32} (HJ : ∀ a b c, dm_ok post (J a b c) → J7 a b c) (h : dm_ok post (dm_Y76 J x2 x3 x4 x5 x6 x7)) : wY_tiling_76 post J7 x1 x2 x3 x4 x5 x6 x7 w o :=
  dm_br h (fun h => h) (fun h => nm_e (dm_br h (fun h => ⟨by decide, by decide, nm_e (nm_e (HJ _ _ _ h))⟩) (fun h => nm_e (nm_e (HJ _ _ _ h)))))
theorem dm_Y54w {post : Int32 → Prop} {J : Int32 → Int32 → Int32 → Option Int32} {J7 : Int32 → Int32 → Int32 → Prop} {w o : Nat → Int32} {x1 x2 x3 x4 x5 x6 z0 : Int32} (HJ : ∀ a b c, dm_ok post (J a b c) → J7 a b c) (h : dm_ok post (dm_Y54 J x2 x3 x4 x5 x6 z0)) : wY_tiling_54 post J7 x1 x2 x3 x4 x5 x6 z0 w o :=
  dm_br h (fun h => h) (fun h => dm_br h (fun h => ⟨by decide, dm_br h (fun h => h) (fun h => dm_Y76w HJ h)⟩) (fun h => dm_Y76w HJ h))
theorem dm_Y36w {post : Int32 → Prop} {J : Int32 → Int32 → Int32 → Option Int32} {J7 : Int32 → Int32 → Int32 → Prop} {w o : Nat → Int32} {x1 x2 x3 x4 x5 z0 : Int32} (HJ : ∀ a b c, dm_ok post (J a b c) → J7 a b c) (h : dm_ok post (dm_Y36 J x2 x3 x4 x5 z0)) : wY_tiling_36 post J7 x1 x2 x3 x4 x5 z0 w o :=
  dm_br h (fun h => dm_Y54w HJ h) (fun h => dm_Y54w HJ h)
theorem dm_fYw {post : Int32 → Prop} {w o : Nat → Int32} {x1 : Int32} : ∀ (n : Nat) (x2 x3 x4 : Int32), dm_ok post (dm_fY x1 n x2 x3 x4) → wY_tiling_7 post x1 w o n x2 x3 x4 := by
  intro n
  induction n with
  | zero => intro x2 x3 x4 h; exact h
  | succ n ih =>
    intro x2 x3 x4 h
    refine dm_br h (fun h => h) (fun h => ⟨17, dm_fow 17 0 ?_⟩)
    have h2 := dm_okt h
    generalize dm_fo x2 17 0 = q at h2
    cases q with
    | none => exact h2
    | some r => exact dm_br (post := post) h2 (fun h => dm_Y36w ih h) (fun h => dm_Y36w ih h)
theorem dm_ty {post : Int32 → Prop} {w o : Nat → Int32} {c : Nat} (hc : c < 256) (h : post (dm_T c)) : wpY_tiling post (w, o) (nI c) :=
  ⟨9, dm_fYw 9 0 0 0 (by rw [dm_F2 c hc]; exact h)⟩
-- the tests of the arguments
theorem dm_plN {post : Int32 → Prop} {x : Int32} (h : x < 0 ∨ nI 24 ≤ x) (hp : post 0) : wpX_isPlace post x :=
  br_c (fun _ => hp) (fun n => h.elim (fun e => absurd e n) (fun e => br_t e hp))
theorem dm_plY {post : Int32 → Prop} {j : Nat} (h : j < 24) (hp : post 1) : wpX_isPlace post (nI j) :=
  br_f (nI_pos (by omega)) (br_f (nI_ge (b := 24) h (by decide)) hp)
theorem dm_bdN {post : Int32 → Prop} {v : SY} {x : Int32} (h : x < 0 ∨ nI 24 ≤ x) (hp : post 1) : wpY_bad post v x := by
  refine br_c (fun _ => hp) (fun n => h.elim (fun e => absurd e n) (fun e => br_f (fun z => ?_) hp))
  exact nI_ge (a := 23) (b := 24) (by decide) (by decide) (Int32.le_trans e z)
theorem dm_bdY {post : Int32 → Prop} {v : SY} {j : Nat} (h : j < 24) (hp : post 0) : wpY_bad post v (nI j) :=
  br_f (nI_pos (by omega)) (br_t (nI_le (b := 23) (by omega) (by decide)) hp)
theorem dm_wt (x : Int32) : (x < 0 ∨ 4 < x) ∨ (¬ x < 0 ∧ ¬ 4 < x ∧ x ≤ 4) := by
  by_cases h : x < 0
  · exact Or.inl (Or.inl h)
  · by_cases h4 : 4 < x
    · exact Or.inl (Or.inr h4)
    · exact Or.inr ⟨h, h4, Int32.not_lt.mp h4⟩
theorem dm_wtN {post : Int32 → Prop} {x : Int32} (h : x < 0 ∨ 4 < x) (hp : post 0) : wpX_isWeight post x :=
  br_c (fun _ => hp) (fun n => h.elim (fun e => absurd e n) (fun e => br_t e hp))
theorem dm_wtY {post : Int32 → Prop} {x : Int32} (h : ¬ x < 0) (h4 : ¬ 4 < x) (hp : post 1) : wpX_isWeight post x :=
  br_f h (br_f h4 hp)
theorem dm_ywN {A B : Prop} {x : Int32} (h : x < 0 ∨ 4 < x) (hp : A) : (x < 0 → A) ∧ (¬ x < 0 → ((x ≤ 4 → B) ∧ (¬ x ≤ 4 → A))) :=
  br_c (fun _ => hp) (fun n => h.elim (fun e => absurd e n) (fun e => br_f (fun z => Int32.not_lt.mpr z e) hp))
end
section
-- worth
def dm_wg (w : Nat → Int32) (p : Int32) (a : Int32) (i : Nat) : Int32 := if ((p >>> (nI i &&& 31)) &&& 1) = 1 then a * w i else a
def dm_wo (w : Nat → Int32) (p : Int32) (a : Int32) : Int32 := dm_fold (dm_wg w p) 24 0 a
def dm_wy (w : Nat → Int32) (p : Int32) : Int32 := if p = 0 then dm_wo w p 0 else dm_wo w p 1
theorem dm_wgt {w : Nat → Int32} {p a : Int32} {i : Nat} (h : ((p >>> (nI i &&& 31)) &&& 1) = 1) : dm_wg w p a i = a * w i := if_pos h
theorem dm_wgf {w : Nat → Int32} {p a : Int32} {i : Nat} (h : ¬ ((p >>> (nI i &&& 31)) &&& 1) = 1) : dm_wg w p a i = a := if_neg h
theorem dm_xw {post : Int32 → Prop} {w t tl : Nat → Int32} {p : Int32} (h : post (dm_wo w p 1)) : wpX_worth post (w, t, tl) p := by
  refine dm_loop0 (fun n i s => wX_worth_4 post p w t tl n s (nI i)) (dm_wg w p) 24 post (fun n s hF => br_t (nI_le (Nat.le_refl 24) (by decide)) hF) (fun n i s hi hW => br_f (nI_ge (b := 24) hi (by decide)) ?_) 1 h
  refine dm_conb (fun e => ⟨vp_in_nI hi (by decide), nm_r (e' := s * w i) (by rw [nI_clamp (by omega)]) (nm_r (nI_1 i) ?_)⟩) (fun e => nm_r (nI_1 i) ?_)
  · rw [dm_wgt e] at hW; exact hW
  · rw [dm_wgf e] at hW; exact hW
theorem dm_yw0 {post : Int32 → Prop} {w o : Nat → Int32} {p a : Int32} (h : post (dm_wo w p a)) : ∃ n, wY_worth_12 post p w o n a 0 := by
  refine dm_loop0 (fun n i s => wY_worth_12 post p w o n s (nI i)) (dm_wg w p) 24 post (fun n s hF => br_t (nI_le (Nat.le_refl 24) (by decide)) hF) (fun n i s hi hW => br_f (nI_ge (b := 24) hi (by decide)) ?_) a h
  refine br_c (fun e => ⟨vp_in_nI hi (by decide), nm_r (e' := s * w i) (by rw [nI_clamp (by omega)]) (nm_r (nI_1 i) ?_)⟩) (fun e => nm_r (nI_1 i) ?_)
  · rw [dm_wgt e] at hW; exact hW
  · rw [dm_wgf e] at hW; exact hW
theorem dm_yw {post : Int32 → Prop} {w o : Nat → Int32} {p : Int32} (h : post (dm_wy w p)) : wpY_worth post (w, o) p :=
  br_c (fun e => dm_yw0 ((dm_ite (P := post) h).1 e)) (fun e => dm_yw0 ((dm_ite (P := post) h).2 e))
theorem dm_b0 : ∀ i, i < 24 → ¬ (((0 : Int32) >>> (nI i &&& 31)) &&& 1) = 1 := by decide +kernel
theorem dm_wy0 (w : Nat → Int32) : dm_wy w 0 = 0 := by
  unfold dm_wy dm_wo
  rw [if_pos rfl]
  have h : ∀ d i (s : Int32), i + d ≤ 24 → dm_fold (dm_wg w 0) d i s = s := by
    intro d
    induction d with
    | zero => intro i s _; rfl
    | succ d ih =>
      intro i s hi
      show dm_fold (dm_wg w 0) d (i + 1) (dm_wg w 0 s i) = s
      rw [dm_wgf (dm_b0 i (by omega))]
      exact ih (i + 1) s (by omega)
  exact h 24 0 0 (by decide)
theorem dm_wyp (w : Nat → Int32) {p : Int32} (h : ¬ p = 0) : dm_wy w p = dm_wo w p 1 := if_neg h
-- the class's tilings
def dm_Tl (tl : Nat → Int32) : Prop := ∀ j, j < 36 → tl j = dm_L j
theorem dm_tl {tl : Nat → Int32} (hT : dm_Tl tl) {i : Nat} (hi : i < 36) : tl (nI i).toNatClampNeg = dm_L i := by
  rw [nI_clamp (by omega)]; exact hT i hi
theorem dm_Lc {c : Nat} (hc : c < 256) (z : ¬ dm_T c = 0) : dm_L (dm_cnt c) = dm_T c := (dm_F3 c hc).elim (fun e => absurd e z) (fun e => e)
-- sums
def dm_sX (w : Nat → Int32) (q s : Int32) (j : Nat) : Int32 := if (dm_L j &&& q) = q then s + dm_wo w (dm_L j) 1 else s
def dm_sY (w : Nat → Int32) (q s : Int32) (c : Nat) : Int32 := if (dm_T c &&& q) = q then s + dm_wy w (dm_T c) else s
def dm_S (w : Nat → Int32) (q : Int32) : Int32 := dm_fold (dm_sX w q) 36 0 0
theorem dm_sYX (w : Nat → Int32) (q : Int32) : dm_fold (dm_sY w q) 256 0 0 = dm_S w q :=
  dm_sel (dm_sX w q) (dm_sY w q) (fun s c hc z => by
      unfold dm_sY
      rw [z, dm_wy0, Int32.add_zero]
      exact ite_self s) (fun s c hc z => by
      unfold dm_sY dm_sX
      rw [dm_Lc hc z, dm_wyp w z]) 256 0 0 rfl
theorem dm_xs {post : Int32 → Prop} {w t tl : Nat → Int32} {q : Int32} (hT : dm_Tl tl) (h : post (dm_S w q)) : wpX_sumOfWorths post (w, t, tl) q := by
  refine dm_loop0 (fun n i s => wX_sumOfWorths_4 post q w t tl n s (nI i)) (dm_sX w q) 36 post (fun n s hF => br_t (nI_le (Nat.le_refl 36) (by decide)) hF) (fun n i s hi hW => br_f (nI_ge (b := 36) hi (by decide)) ⟨vp_in_nI hi (by decide), ?_⟩) 0 h
  rw [dm_tl hT hi]
  refine br_c (fun e => ⟨vp_in_nI hi (by decide), dm_xw (nm_e (nm_r (nI_1 i) ?_))⟩) (fun e => nm_r (nI_1 i) ?_)
  · have e2 : dm_sX w q s i = s + dm_wo w (dm_L i) 1 := if_pos e
    rw [e2] at hW; exact hW
  · have e2 : dm_sX w q s i = s := if_neg e
    rw [e2] at hW; exact hW
theorem dm_ys {post : Int32 → Prop} {w o : Nat → Int32} {q : Int32} (h : post (dm_S w q)) : wpY_sumWith post (w, o) q := by
  rw [← dm_sYX] at h
  refine dm_loop0 (fun n i s => wY_sumWith_4 post q w o n s (nI i)) (dm_sY w q) 256 post (fun n s hF => br_t (nI_le (Nat.le_refl 256) (by decide)) hF) (fun n i s hi hW => br_f (nI_ge (b := 256) hi (by decide)) (dm_ty hi ?_)) 0 h
  refine br_c (fun e => dm_yw (nm_e (nm_r (nI_1 i) ?_))) (fun e => nm_r (nI_1 i) ?_)
  · have e2 : dm_sY w q s i = s + dm_wy w (dm_T i) := if_pos e
    rw [e2] at hW; exact hW
  · have e2 : dm_sY w q s i = s := if_neg e
    rw [e2] at hW; exact hW
-- possible
def dm_pX (w : Nat → Int32) (s : Int32) (j : Nat) : Int32 := if dm_wo w (dm_L j) 1 ≤ 0 then s else s + 1
def dm_pY (w : Nat → Int32) (s : Int32) (c : Nat) : Int32 := if dm_wy w (dm_T c) ≤ 0 then s else s + 1
def dm_P (w : Nat → Int32) : Int32 := dm_fold (dm_pX w) 36 0 0
theorem dm_pYX (w : Nat → Int32) : dm_fold (dm_pY w) 256 0 0 = dm_P w :=
  dm_sel (dm_pX w) (dm_pY w) (fun s c hc z => by
      unfold dm_pY
      rw [z, dm_wy0]
      exact if_pos (by decide)) (fun s c hc z => by
      unfold dm_pY dm_pX
      rw [dm_Lc hc z, dm_wyp w z]) 256 0 0 rfl
theorem dm_xp {post : Int32 → Prop} {w t tl : Nat → Int32} (hT : dm_Tl tl) (h : post (dm_P w)) : wpX_possible post (w, t, tl) := by
  refine dm_loop0 (fun n i s => wX_possible_4 post w t tl n s (nI i)) (dm_pX w) 36 post (fun n s hF => br_t (nI_le (Nat.le_refl 36) (by decide)) hF) (fun n i s hi hW => br_f (nI_ge (b := 36) hi (by decide)) ⟨vp_in_nI hi (by decide), ?_⟩) 0 h
  rw [dm_tl hT hi]
  refine dm_xw (br_c (fun e => nm_r (nI_1 i) ?_) (fun e => nm_e (nm_r (nI_1 i) ?_)))
  · have e2 : dm_pX w s i = s := if_pos e
    rw [e2] at hW; exact hW
  · have e2 : dm_pX w s i = s + 1 := if_neg e
    rw [e2] at hW; exact hW
theorem dm_yp {post : Int32 → Prop} {w o : Nat → Int32} (h : post (dm_P w)) : wpY_possible post (w, o) := by
  rw [← dm_pYX] at h
  refine dm_loop0 (fun n i s => wY_possible_4 post w o n s (nI i)) (dm_pY w) 256 post (fun n s hF => br_t (nI_le (Nat.le_refl 256) (by decide)) hF) (fun n i s hi hW => br_f (nI_ge (b := 256) hi (by decide)) (dm_ty hi (dm_yw ?_))) 0 h
  refine br_c (fun e => nm_r (nI_1 i) ?_) (fun e => nm_e (nm_r (nI_1 i) ?_))
  · have e2 : dm_pY w s i = s := if_pos e
    rw [e2] at hW; exact hW
  · have e2 : dm_pY w s i = s + 1 := if_neg e
    rw [e2] at hW; exact hW
-- settled
def dm_cg (p s : Int32) (i : Nat) : Int32 := s + ((p >>> (nI i &&& 31)) &&& 1)
def dm_C (p : Int32) : Int32 := dm_fold (dm_cg p) 24 0 0
theorem dm_bit (y : Int32) (h : ¬ y &&& 1 = 1) : y &&& 1 = 0 := by
  obtain ⟨j, hj, e⟩ := pk_andE y (m := 1) 1 (by decide)
  have h2 : j = 0 ∨ j = 1 := by omega
  rcases h2 with rfl | rfl
  · exact e
  · exact absurd e h
theorem dm_xc {post : Int32 → Prop} {p : Int32} (h : post (dm_C p)) : wpX_countOfPlaces post p := by
  refine dm_loop0 (fun n i s => wX_countOfPlaces_4 post p n s (nI i)) (dm_cg p) 24 post (fun n s hF => br_t (nI_le (Nat.le_refl 24) (by decide)) hF) (fun n i s hi hW => br_f (nI_ge (b := 24) hi (by decide)) ?_) 0 h
  refine dm_conb (fun e => nm_e (nm_r (nI_1 i) ?_)) (fun e => nm_r (nI_1 i) ?_)
  · have e2 : dm_cg p s i = s + 1 := by unfold dm_cg; rw [e]
    rw [e2] at hW; exact hW
  · have e2 : dm_cg p s i = s := by unfold dm_cg; rw [dm_bit _ e, Int32.add_zero]
    rw [e2] at hW; exact hW
theorem dm_yc {post : Int32 → Prop} {w o : Nat → Int32} {p : Int32} (h : post (dm_C p)) : ∃ n, wY_settled_40 post p w o n 0 0 :=
  dm_loop0 (fun n i s => wY_settled_40 post p w o n s (nI i)) (dm_cg p) 24 post (fun n s hF => br_t (nI_le (Nat.le_refl 24) (by decide)) hF) (fun n i s hi hW => br_f (nI_ge (b := 24) hi (by decide)) (nm_e (nm_r (nI_1 i) hW))) 0 h
def dm_tX (w : Nat → Int32) (s : Int32) (j : Nat) : Int32 := if dm_wo w (dm_L j) 1 ≤ 0 then s else s &&& dm_L j
def dm_tY (w : Nat → Int32) (s : Int32) (c : Nat) : Int32 := if dm_wy w (dm_T c) ≤ 0 then s else s &&& dm_T c
def dm_M (w : Nat → Int32) : Int32 := dm_fold (dm_tX w) 36 0 16777215
theorem dm_tYX (w : Nat → Int32) : dm_fold (dm_tY w) 256 0 16777215 = dm_M w :=
  dm_sel (dm_tX w) (dm_tY w) (fun s c hc z => by
      unfold dm_tY
      rw [z, dm_wy0]
      exact if_pos (by decide)) (fun s c hc z => by
      unfold dm_tY dm_tX
      rw [dm_Lc hc z, dm_wyp w z]) 256 0 16777215 rfl
theorem dm_xt {post : Int32 → Prop} {w t tl : Nat → Int32} (hT : dm_Tl tl) (h : post (dm_C (dm_M w))) : wpX_settled post (w, t, tl) := by
  refine dm_loop0 (fun n i s => wX_settled_5 post w t tl n s (nI i)) (dm_tX w) 36 (fun s => post (dm_C s)) (fun n s hF => br_t (nI_le (Nat.le_refl 36) (by decide)) (dm_xc hF)) (fun n i s hi hW => br_f (nI_ge (b := 36) hi (by decide)) ⟨vp_in_nI hi (by decide), ?_⟩) 16777215 h
  rw [dm_tl hT hi]
  refine dm_xw (br_c (fun e => nm_r (nI_1 i) ?_) (fun e => ⟨vp_in_nI hi (by decide), nm_e (nm_r (nI_1 i) ?_)⟩))
  · have e2 : dm_tX w s i = s := if_pos e
    rw [e2] at hW; exact hW
  · have e2 : dm_tX w s i = s &&& dm_L i := if_neg e
    rw [e2] at hW; exact hW
theorem dm_yt {post : Int32 → Prop} {w o : Nat → Int32} (h : post (dm_C (dm_M w))) : wpY_settled post (w, o) := by
  rw [← dm_tYX] at h
  refine dm_loop0 (fun n i s => wY_settled_5 post w o n s (nI i)) (dm_tY w) 256 (fun s => post (dm_C s)) (fun n s hF => br_t (nI_le (Nat.le_refl 256) (by decide)) (dm_yc hF)) (fun n i s hi hW => br_f (nI_ge (b := 256) hi (by decide)) (dm_ty hi (dm_yw ?_))) 16777215 h
  refine br_c (fun e => nm_r (nI_1 i) ?_) (fun e => nm_e (nm_r (nI_1 i) ?_))
  · have e2 : dm_tY w s i = s := if_pos e
    rw [e2] at hW; exact hW
  · have e2 : dm_tY w s i = s &&& dm_T i := if_neg e
    rw [e2] at hW; exact hW
-- acrossTotal
def dm_ag (w : Nat → Int32) (s : Int32) (i : Nat) : Int32 := s + dm_S w ((1 : Int32) <<< (nI i &&& 31))
def dm_A (w : Nat → Int32) : Int32 := dm_fold (dm_ag w) 12 0 0
theorem dm_xa {post : Int32 → Prop} {w t tl : Nat → Int32} (hT : dm_Tl tl) (h : post (dm_A w)) : wpX_acrossTotal post (w, t, tl) :=
  dm_loop0 (fun n i s => wX_acrossTotal_4 post w t tl n s (nI i)) (dm_ag w) 12 post (fun n s hF => br_t (nI_le (Nat.le_refl 12) (by decide)) hF) (fun n i s hi hW => br_f (nI_ge (b := 12) hi (by decide)) (dm_xs hT (nm_e (nm_r (nI_1 i) hW)))) 0 h
theorem dm_ya {post : Int32 → Prop} {w o : Nat → Int32} (h : post (dm_A w)) : wpY_acrossTotal post (w, o) :=
  dm_loop0 (fun n i s => wY_acrossTotal_4 post w o n s (nI i)) (dm_ag w) 12 post (fun n s hF => br_t (nI_le (Nat.le_refl 12) (by decide)) hF) (fun n i s hi hW => br_f (nI_ge (b := 12) hi (by decide)) (dm_ys (nm_e (nm_r (nI_1 i) hW)))) 0 h
end
section
theorem dm_last : True := trivial
end
