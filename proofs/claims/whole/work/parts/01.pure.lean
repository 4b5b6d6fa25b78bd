-- pasted from kit/rows/PURE-ROWS: the five pk_ rows
theorem pk_us {f : Nat → Int32} {k : Nat} {x : Int32} : upd f k x k = x := if_pos rfl
theorem pk_un {f : Nat → Int32} {k j : Nat} {x : Int32} (h : j ≠ k) : upd f k x j = f j := if_neg h
theorem pk_ix (x : Int32) {n : Nat} (hn : n < 2 ^ 31) : x < 0 ∨ nI n ≤ x ∨ ∃ j : Nat, j < n ∧ x = nI j := by
  by_cases h : x < 0
  · exact Or.inl h
  · obtain ⟨j, hj, rfl⟩ := nI_of h
    by_cases h2 : j < n
    · exact Or.inr (Or.inr ⟨j, h2, rfl⟩)
    · exact Or.inr (Or.inl (nI_le (by omega) hj))
theorem pk_and (x : Int32) {m : Int32} (k : Nat) (hm : m.toBitVec.toNat = 2 ^ k - 1) : x &&& m = nI (x.toBitVec.toNat % 2 ^ k) := by
  apply Int32.toBitVec_inj.mp
  apply BitVec.eq_of_toNat_eq
  rw [Int32.toBitVec_and, BitVec.toNat_and, hm, Nat.and_two_pow_sub_one_eq_mod]
  show _ = (BitVec.ofNat 32 _).toNat
  rw [BitVec.toNat_ofNat]
  exact (Nat.mod_eq_of_lt (Nat.lt_of_le_of_lt (Nat.mod_le _ _) x.toBitVec.isLt)).symm
theorem pk_andE (x : Int32) {m : Int32} (k : Nat) (hm : m.toBitVec.toNat = 2 ^ k - 1) : ∃ j : Nat, j < 2 ^ k ∧ x &&& m = nI j := ⟨_, Nat.mod_lt _ (Nat.two_pow_pos k), pk_and x k hm⟩
/-- a counted loop's value: g at i, i + 1, .. (d steps) -/
def dm_fold {σ : Type} (g : σ → Nat → σ) : Nat → Nat → σ → σ
  | 0, _, s => s
  | d + 1, i, s => dm_fold g d (i + 1) (g s i)
theorem dm_loop {σ : Type} (W : Nat → Nat → σ → Prop) (g : σ → Nat → σ) (e : Nat) (F : σ → Prop) (hx : ∀ n s, F s → W (n + 1) e s) (hs : ∀ n i s, i < e → W n (i + 1) (g s i) → W (n + 1) i s) : ∀ d i s, i + d = e → F (dm_fold g d i s) → W (d + 1) i s := by
  intro d
  induction d with
  | zero =>
    intro i s h hF
    have e1 : i = e := by omega
    subst e1
    exact hx 0 s hF
  | succ d ih =>
    intro i s h hF
    exact hs (d + 1) i s (by omega) (ih (i + 1) (g s i) (by omega) hF)
theorem dm_loop0 {σ : Type} (W : Nat → Nat → σ → Prop) (g : σ → Nat → σ) (e : Nat) (F : σ → Prop) (hx : ∀ n s, F s → W (n + 1) e s) (hs : ∀ n i s, i < e → W n (i + 1) (g s i) → W (n + 1) i s) (s : σ) (h : F (dm_fold g e 0 s)) : ∃ n, W n 0 s :=
  ⟨e + 1, dm_loop W g e F hx hs e 0 s (Nat.zero_add e) h⟩
theorem dm_cong {σ : Type} (g g' : σ → Nat → σ) (e : Nat) (h : ∀ s i, i < e → g s i = g' s i) : ∀ d i s, i + d ≤ e → dm_fold g d i s = dm_fold g' d i s := by
  intro d
  induction d with
  | zero => intro i s _; rfl
  | succ d ih =>
    intro i s hi
    show dm_fold g d (i + 1) (g s i) = dm_fold g' d (i + 1) (g' s i)
    rw [h s i (by omega)]
    exact ih (i + 1) _ (by omega)
/-- an answer that is there and satisfies post -/
def dm_ok (post : Int32 → Prop) : Option Int32 → Prop
  | none => False
  | some r => post r
theorem dm_br {post : Int32 → Prop} {c : Prop} [Decidable c] {a b : Option Int32} {A B : Prop} (h : dm_ok post (if c then a else b)) (ha : dm_ok post a → A) (hb : dm_ok post b → B) : (c → A) ∧ (¬ c → B) :=
  ⟨fun e => ha (by rw [if_pos e] at h; exact h), fun e => hb (by rw [if_neg e] at h; exact h)⟩
theorem dm_ite {P : Int32 → Prop} {c : Prop} [Decidable c] {a b : Int32} (h : P (if c then a else b)) : (c → P a) ∧ (¬ c → P b) :=
  ⟨fun e => by rw [if_pos e] at h; exact h, fun e => by rw [if_neg e] at h; exact h⟩
def dm_con (p m : Int32) : Int32 := if ((p >>> (m &&& 31)) &&& 1) = 1 then 1 else 0
def dm_up (s : Int32) : Int32 := if 12 ≤ s then (-1) else 12 + s
def dm_ac (s : Int32) : Int32 := if 3 ≤ s - s / 4 * 4 then (-1) else ((s / 4) * 3) + (s - s / 4 * 4)
def dm_sq (p : Int32) : Int32 := if 12 ≤ p then (((1 : Int32) <<< ((p - 12) &&& 31)) ||| ((1 : Int32) <<< (((p - 12) + 4) &&& 31))) else (((1 : Int32) <<< ((((p / 3) * 4) + (p - p / 3 * 3)) &&& 31)) ||| ((1 : Int32) <<< (((((p / 3) * 4) + (p - p / 3 * 3)) + 1) &&& 31)))
def dm_X49 (J : Int32 → Int32 → Int32 → Int32 → Option Int32) (x1 x2 x3 x4 z : Int32) : Option Int32 :=
  if z = (-1) then some 0 else if (x2 &&& dm_sq z) = 0 then J (x1 >>> ((1 : Int32) &&& 31)) (x2 ||| dm_sq z) (x3 ||| ((1 : Int32) <<< (z &&& 31))) (x4 + 1) else some 0
/-- the class's search for the tiling of a number of choices -/
def dm_fX : Nat → Int32 → Int32 → Int32 → Int32 → Option Int32
  | 0 => fun _ _ _ _ => none
  | n + 1 => fun x1 x2 x3 x4 => if 16 ≤ x4 then some x3 else if dm_con x2 x4 = 0 then (if dm_con x1 0 = 0 then dm_X49 (dm_fX n) x1 x2 x3 x4 (dm_ac x4) else dm_X49 (dm_fX n) x1 x2 x3 x4 (dm_up x4)) else dm_fX n x1 x2 x3 (x4 + 1)
def dm_fo (x1 : Int32) : Nat → Int32 → Option Int32
  | 0 => fun _ => none
  | n + 1 => fun x2 => if 16 ≤ x2 then some 16 else if ((x1 >>> (x2 &&& 31)) &&& 1) = 0 then some x2 else dm_fo x1 n (x2 + 1)
def dm_then (o : Option Int32) (f : Int32 → Option Int32) : Option Int32 := match o with
  | none => none
  | some r => f r
def dm_Y76 (J : Int32 → Int32 → Int32 → Option Int32) (x2 x3 x4 x5 x6 x7 : Int32) : Option Int32 :=
  if ((x2 >>> (x7 &&& 31)) &&& 1) = 1 then some 0 else if x6 = 0 then J ((x2 ||| ((1 : Int32) <<< (x5 &&& 31))) ||| ((1 : Int32) <<< (x7 &&& 31))) (x3 ||| ((1 : Int32) <<< ((((x5 / 4) * 3) + (x5 - x5 / 4 * 4)) &&& 31))) (x4 + 1) else J ((x2 ||| ((1 : Int32) <<< (x5 &&& 31))) ||| ((1 : Int32) <<< (x7 &&& 31))) (x3 ||| ((1 : Int32) <<< ((12 + x5) &&& 31))) (x4 + 1)
def dm_Y54 (J : Int32 → Int32 → Int32 → Option Int32) (x2 x3 x4 x5 x6 z0 : Int32) : Option Int32 :=
  if 15 < z0 then some 0 else if x6 = 0 then (if (x5 - x5 / 4 * 4) = 3 then some 0 else dm_Y76 J x2 x3 x4 x5 x6 z0) else dm_Y76 J x2 x3 x4 x5 x6 z0
def dm_Y36 (J : Int32 → Int32 → Int32 → Option Int32) (x2 x3 x4 x5 z0 : Int32) : Option Int32 :=
  if z0 = 0 then dm_Y54 J x2 x3 x4 x5 z0 (x5 + 1) else dm_Y54 J x2 x3 x4 x5 z0 (x5 + 4)
/-- the reference's search -/
def dm_fY (x1 : Int32) : Nat → Int32 → Int32 → Int32 → Option Int32
  | 0 => fun _ _ _ => none
  | n + 1 => fun x2 x3 x4 => if 8 ≤ x4 then some x3 else dm_then (dm_fo x2 17 0) (fun r => if ((x1 >>> (x4 &&& 31)) &&& 1) = 1 then dm_Y36 (dm_fY x1 n) x2 x3 x4 r 1 else dm_Y36 (dm_fY x1 n) x2 x3 x4 r 0)
/-- the tiling of each of the 256 numbers of choices, 0 where there is none -/
def dm_tab : List Nat := [
  2925, 0, 0, 15204, 0, 39762, 52041, 0, 0, 0, 0, 0, 199461, 0, 0, 64320, 0, 0, 0, 0, 592533, 0, 0, 0,
  789069, 0, 0, 801348, 0, 0, 248577, 0, 0, 0, 0, 0, 0, 0, 0, 0, 0, 0, 0, 0, 0, 0, 0, 0,
  3148077, 0, 0, 3160356, 0, 3184914, 3197193, 0, 0, 0, 0, 0, 985605, 0, 0, 3209472, 0, 0, 0, 0, 0, 0, 0, 0,
  0, 0, 0, 0, 0, 0, 0, 0, 9438381, 0, 0, 9450660, 0, 9475218, 9487497, 0, 0, 0, 0, 0, 0, 0, 0, 9499776,
  12583533, 0, 0, 12595812, 0, 12620370, 12632649, 0, 0, 0, 0, 0, 12780069, 0, 0, 12644928, 0, 0, 0, 0, 0, 0, 0, 0,
  3934221, 0, 0, 3946500, 0, 9868290, 12829185, 0, 0, 0, 0, 0, 0, 0, 0, 0, 0, 0, 0, 0, 0, 0, 0, 0,
  0, 0, 0, 0, 0, 0, 0, 0, 0, 0, 0, 0, 0, 0, 0, 0, 0, 0, 0, 0, 0, 0, 0, 0,
  0, 0, 0, 0, 0, 0, 0, 0, 0, 0, 0, 0, 0, 0, 0, 0, 0, 0, 0, 0, 0, 0, 0, 0,
  0, 0, 0, 0, 0, 0, 0, 0, 0, 0, 0, 0, 0, 0, 0, 0, 0, 0, 0, 0, 0, 0, 0, 0,
  0, 0, 0, 0, 0, 0, 0, 0, 0, 0, 0, 0, 0, 0, 0, 0, 0, 0, 0, 0, 0, 0, 0, 0,
  15728685, 0, 0, 15740964, 0, 15765522, 15777801, 0, 0, 0, 0, 0, 0, 0, 0, 15790080]
def dm_lst : List Nat := [
  2925, 15204, 39762, 52041, 199461, 64320, 592533, 789069, 801348, 248577, 3148077, 3160356,
  3184914, 3197193, 985605, 3209472, 9438381, 9450660, 9475218, 9487497, 9499776, 12583533, 12595812, 12620370,
  12632649, 12780069, 12644928, 3934221, 3946500, 9868290, 12829185, 15728685, 15740964, 15765522, 15777801, 15790080]
def dm_T (c : Nat) : Int32 := nI (dm_tab.getD c 0)
def dm_L (j : Nat) : Int32 := nI (dm_lst.getD j 0)
def dm_cnt : Nat → Nat
  | 0 => 0
  | c + 1 => if dm_T c = 0 then dm_cnt c else dm_cnt c + 1
set_option maxRecDepth 20000 in
theorem dm_F1 : ∀ c, c < 256 → dm_fX 17 (nI c) 0 0 0 = some (dm_T c) := by decide +kernel
set_option maxRecDepth 20000 in
theorem dm_F2 : ∀ c, c < 256 → dm_fY (nI c) 9 0 0 0 = some (dm_T c) := by decide +kernel
set_option maxRecDepth 20000 in
theorem dm_F3 : ∀ c, c < 256 → dm_T c = 0 ∨ dm_L (dm_cnt c) = dm_T c := by decide +kernel
set_option maxRecDepth 20000 in
theorem dm_F4 : ∀ c, c < 257 → dm_cnt c ≤ 36 := by decide +kernel
set_option maxRecDepth 20000 in
theorem dm_F5 : dm_cnt 256 = 36 := by decide +kernel
/-- a fold over the 256 that passes over the empty ones is the fold over the 36 -/
theorem dm_sel {σ : Type} (gX gY : σ → Nat → σ) (h0 : ∀ s c, c < 256 → dm_T c = 0 → gY s c = s) (h1 : ∀ s c, c < 256 → ¬ dm_T c = 0 → gY s c = gX s (dm_cnt c)) : ∀ d c s, c + d = 256 → dm_fold gY d c s = dm_fold gX (36 - dm_cnt c) (dm_cnt c) s := by
  intro d
  induction d with
  | zero =>
    intro c s h
    have e1 : c = 256 := by omega
    subst e1
    rw [dm_F5]
    rfl
  | succ d ih =>
    intro c s h
    show dm_fold gY d (c + 1) (gY s c) = _
    rw [ih (c + 1) _ (by omega)]
    by_cases z : dm_T c = 0
    · have ec : dm_cnt (c + 1) = dm_cnt c := if_pos z
      rw [h0 s c (by omega) z, ec]
    · have ec : dm_cnt (c + 1) = dm_cnt c + 1 := if_neg z
      have le := dm_F4 (c + 1) (by omega)
      rw [ec] at le
      have e2 : 36 - dm_cnt c = (36 - (dm_cnt c + 1)) + 1 := by omega
      rw [h1 s c (by omega) z, ec, e2]
      rfl
