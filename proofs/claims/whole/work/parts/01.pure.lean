/-! from kit/rows, pasted -/
theorem pk_us {f : Nat → Int32} {k : Nat} {x : Int32} : upd f k x k = x := if_pos rfl
theorem pk_un {f : Nat → Int32} {k j : Nat} {x : Int32} (h : j ≠ k) : upd f k x j = f j := if_neg h
theorem pk_sub {a b : Nat} (h : b ≤ a) : nI a - nI b = nI (a - b) := by
  obtain ⟨c, rfl⟩ : ∃ c, a = c + b := ⟨a - b, by omega⟩
  rw [← nI_add, Int32.add_sub_cancel, Nat.add_sub_cancel]
theorem pk_mul (a b : Nat) : nI a * nI b = nI (a * b) := (Int32.ofNat_mul a b).symm
theorem pk_sub_toInt {a b : Nat} (ha : a < 2 ^ 30) (hb : b < 2 ^ 30) : (nI a - nI b).toInt = (a : Int) - b := by
  rw [Int32.toInt_sub, nI_toInt (by omega), nI_toInt (by omega)]
  exact Int.bmod_eq_of_le (by omega) (by omega)
theorem pk_le {x y : Int32} {A B : Prop} (a b : Nat) (f : a ≤ b → A) (g : b < a → B) (hx : x = nI a := by rfl) (hy : y = nI b := by rfl) (ha : a < 2 ^ 31 := by omega) (hb : b < 2 ^ 31 := by omega) : (x ≤ y → A) ∧ (¬ x ≤ y → B) := by
  subst hx hy
  rw [nI_leI ha hb]
  exact ⟨f, fun z => g (by omega)⟩
theorem pk_lt {x y : Int32} {A B : Prop} (a b : Nat) (f : a < b → A) (g : b ≤ a → B) (hx : x = nI a := by rfl) (hy : y = nI b := by rfl) (ha : a < 2 ^ 31 := by omega) (hb : b < 2 ^ 31 := by omega) : (x < y → A) ∧ (¬ x < y → B) := by
  subst hx hy
  rw [nI_ltI ha hb]
  exact ⟨f, fun z => g (by omega)⟩
theorem pk_eq {x y : Int32} {A B : Prop} (a b : Nat) (f : a = b → A) (g : a ≠ b → B) (hx : x = nI a := by rfl) (hy : y = nI b := by rfl) (ha : a < 2 ^ 31 := by omega) (hb : b < 2 ^ 31 := by omega) : (x = y → A) ∧ (¬ x = y → B) := by
  subst hx hy
  rw [nI_eq ha hb]
  exact ⟨f, g⟩
theorem pk_in {x : Int32} (n N : Nat) (h : n < N) (hx : x = nI n := by rfl) (hN : N < 2 ^ 31 := by omega) : vp_in x N := by
  subst hx
  exact vp_in_nI h hN
theorem pk_cl {x : Int32} (n : Nat) (hx : x = nI n := by rfl) (h : n < 2 ^ 31 := by omega) : x.toNatClampNeg = n := by
  subst hx
  exact nI_clamp h
theorem pk_tn {n : Nat} (h : n < 2 ^ 32) : (nI n).toBitVec.toNat = n := Nat.mod_eq_of_lt h
theorem pk_and (x : Int32) {m : Int32} (k : Nat) (hm : m.toBitVec.toNat = 2 ^ k - 1) : x &&& m = nI (x.toBitVec.toNat % 2 ^ k) := by
  apply Int32.toBitVec_inj.mp
  apply BitVec.eq_of_toNat_eq
  rw [Int32.toBitVec_and, BitVec.toNat_and, hm, Nat.and_two_pow_sub_one_eq_mod]
  show _ = (BitVec.ofNat 32 _).toNat
  rw [BitVec.toNat_ofNat]
  exact (Nat.mod_eq_of_lt (Nat.lt_of_le_of_lt (Nat.mod_le _ _) x.toBitVec.isLt)).symm
theorem pk_andN {n : Nat} (h : n < 2 ^ 32) {m : Int32} (k : Nat) (hm : m.toBitVec.toNat = 2 ^ k - 1) : nI n &&& m = nI (n % 2 ^ k) := by
  rw [pk_and _ k hm, pk_tn h]
/-! the overlay of f by G on the cells from o to o + k -/
def sh_ov (f G : Nat → Int32) (o k : Nat) : Nat → Int32 := fun j => if o ≤ j ∧ j < o + k then G j else f j
theorem sh_ov_0 (f G : Nat → Int32) (o : Nat) : sh_ov f G o 0 = f := by
  funext j
  exact if_neg (by omega)
theorem sh_ov_in {f G : Nat → Int32} {o k j : Nat} (h : o ≤ j) (h2 : j < o + k) : sh_ov f G o k j = G j := if_pos ⟨h, h2⟩
theorem sh_ov_out {f G : Nat → Int32} {o k j : Nat} (h : ¬ (o ≤ j ∧ j < o + k)) : sh_ov f G o k j = f j := if_neg h
theorem sh_ov_s {f G : Nat → Int32} {o k : Nat} {x : Int32} (h : x = G (o + k)) : upd (sh_ov f G o k) (o + k) x = sh_ov f G o (k + 1) := by
  subst h
  funext j
  show (if j = o + k then G (o + k) else if o ≤ j ∧ j < o + k then G j else f j) = (if o ≤ j ∧ j < o + (k + 1) then G j else f j)
  by_cases e : j = o + k
  · subst e
    rw [if_pos rfl, if_pos (by omega)]
  · rw [if_neg e]
    by_cases e2 : o ≤ j ∧ j < o + k
    · rw [if_pos e2, if_pos (by omega)]
    · rw [if_neg e2, if_neg (by omega)]
/-! one point on both sides, within the window; one polygon; the draft -/
def sh_Pt (x y x' y' : Int32) : Prop := ∃ a b : Nat, a ≤ 24 ∧ b ≤ 12 ∧ x = nI a ∧ y = nI b ∧ x' = nI a ∧ y' = nI b
def sh_Poly (pX pY xs ys pc : Nat → Int32) (p : Nat) : Prop := ∃ c : Nat, 3 ≤ c ∧ c ≤ 8 ∧ pc p = nI c ∧ ∀ k, k < c → sh_Pt (pX (8 * p + k)) (pY (8 * p + k)) (xs (8 * p + k)) (ys (8 * p + k))
def sh_All (m : Nat) (pX pY xs ys pc : Nat → Int32) : Prop := ∀ p, p < m → sh_Poly pX pY xs ys pc p
def sh_Dr (n : Nat) (aX aY xs ys : Nat → Int32) : Prop := ∀ k, k < n → sh_Pt (aX k) (aY k) (xs (48 + k)) (ys (48 + k))
/-! an owner, or a column: nobody is -1 in the class, -2 in the reference -/
def sh_x : Option Nat → Int32
  | none => -1
  | some q => nI q
def sh_y : Option Nat → Int32
  | none => -2
  | some q => nI q
def sh_ok (o : Option Nat) : Prop := ∀ q, o = some q → q < 100
theorem sh_t1 : ∀ q, q < 100 → ¬ nI q = -1 ∧ ¬ nI q = -2 ∧ ¬ nI q < 0 ∧ 0 ≤ nI q := by decide +kernel
theorem sh_okn : sh_ok none := fun _ h => nomatch h
theorem sh_oks {q : Nat} (h : q < 100) : sh_ok (some q) := fun _ e => by cases e; exact h
theorem sh_xi {a b : Option Nat} (ha : sh_ok a) (hb : sh_ok b) : sh_x a = sh_x b ↔ a = b := by
  constructor
  · intro h
    cases a with
    | none =>
      cases b with
      | none => rfl
      | some q => exact absurd h.symm (sh_t1 q (hb q rfl)).1
    | some p =>
      cases b with
      | none => exact absurd h (sh_t1 p (ha p rfl)).1
      | some q =>
        have := (nI_eq (a := p) (b := q) (by have := ha p rfl; omega) (by have := hb q rfl; omega)).mp h
        rw [this]
  · intro h; rw [h]
theorem sh_yi {a b : Option Nat} (ha : sh_ok a) (hb : sh_ok b) : sh_y a = sh_y b ↔ a = b := by
  constructor
  · intro h
    cases a with
    | none =>
      cases b with
      | none => rfl
      | some q => exact absurd h.symm (sh_t1 q (hb q rfl)).2.1
    | some p =>
      cases b with
      | none => exact absurd h (sh_t1 p (ha p rfl)).2.1
      | some q =>
        have := (nI_eq (a := p) (b := q) (by have := ha p rfl; omega) (by have := hb q rfl; omega)).mp h
        rw [this]
  · intro h; rw [h]
theorem sh_xn {a : Option Nat} (ha : sh_ok a) : sh_x a = -1 ↔ a = none := sh_xi (b := none) ha sh_okn
theorem sh_xs {a : Option Nat} {p : Nat} (ha : sh_ok a) (hp : p < 100) : sh_x a = nI p ↔ a = some p := sh_xi (b := some p) ha (sh_oks hp)
theorem sh_ys {a : Option Nat} {p : Nat} (ha : sh_ok a) (hp : p < 100) : sh_y a = nI p ↔ a = some p := sh_yi (b := some p) ha (sh_oks hp)
theorem sh_yl {a : Option Nat} (ha : sh_ok a) : sh_y a < 0 ↔ a = none := by
  cases a with
  | none => exact ⟨fun _ => rfl, fun _ => by decide⟩
  | some q => exact ⟨fun h => absurd h (sh_t1 q (ha q rfl)).2.2.1, fun h => nomatch h⟩
theorem sh_yg {a : Option Nat} (ha : sh_ok a) : 0 ≤ sh_y a ↔ ¬ a = none := by
  cases a with
  | none => exact ⟨fun h => absurd h (by decide), fun h => absurd rfl h⟩
  | some q => exact ⟨fun _ h => (nomatch h), fun _ => (sh_t1 q (ha q rfl)).2.2.2⟩
/-! a branch met through an equivalence -/
theorem sh_if {c d A B : Prop} (e : c ↔ d) (f : d → A) (g : ¬ d → B) : (c → A) ∧ (¬ c → B) := ⟨fun h => f (e.mp h), fun h => g (fun hd => h (e.mpr hd))⟩
