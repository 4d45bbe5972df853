section
/-! from kit/rows, pasted -/
theorem pk_us {f : Nat → Int32} {k : Nat} {x : Int32} : upd f k x k = x := if_pos rfl
theorem pk_un {f : Nat → Int32} {k j : Nat} {x : Int32} (h : j ≠ k) : upd f k x j = f j := if_neg h
theorem pk_sub {a b : Nat} (h : b ≤ a) : nI a - nI b = nI (a - b) := by
  obtain ⟨c, rfl⟩ : ∃ c, a = c + b := ⟨a - b, by omega⟩
  rw [← nI_add, Int32.add_sub_cancel, Nat.add_sub_cancel]
theorem pk_mul (a b : Nat) : nI a * nI b = nI (a * b) := (Int32.ofNat_mul a b).symm
theorem pk_sub_toInt {a b : Nat} (ha : a < 2 ^ 30) (hb : b < 2 ^ 30) : (nI a - nI b).toInt = (a : Int) - b := by
  rw [Int32.toInt_sub, nI_toInt (by omega), nI_toInt (by omega)]
  exact Int.bmod_eq_of_le (by omega) (by omega)
theorem pk_le {x y : Int32} {A B : Prop} (a b : Nat) (f : a ≤ b → A) (g : b < a → B) (hx : x = nI a := by rfl) (hy : y = nI b := by rfl) (ha : a < 2 ^ 31 := by omega) (hb : b < 2 ^ 31 := by omega) : (x ≤ y → A) ∧ (¬ x ≤ y → B) := by
  subst hx hy
  rw [nI_leI ha hb]
  exact ⟨f, fun z => g (by omega)⟩
theorem pk_lt {x y : Int32} {A B : Prop} (a b : Nat) (f : a < b → A) (g : b ≤ a → B) (hx : x = nI a := by rfl) (hy : y = nI b := by rfl) (ha : a < 2 ^ 31 := by omega) (hb : b < 2 ^ 31 := by omega) : (x < y → A) ∧ (¬ x < y → B) := by
  subst hx hy
  rw [nI_ltI ha hb]
  exact ⟨f, fun z => g (by omega)⟩
theorem pk_eq {x y : Int32} {A B : Prop} (a b : Nat) (f : a = b → A) (g : a ≠ b → B) (hx : x = nI a := by rfl) (hy : y = nI b := by rfl) (ha : a < 2 ^ 31 := by omega) (hb : b < 2 ^ 31 := by omega) : (x = y → A) ∧ (¬ x = y → B) := by
  subst hx hy
  rw [nI_eq ha hb]
  exact ⟨f, g⟩
theorem pk_in {x : Int32} (n N : Nat) (h : n < N) (hx : x = nI n := by rfl) (hN : N < 2 ^ 31 := by omega) : vp_in x N := by
  subst hx
  exact vp_in_nI h hN
theorem pk_cl {x : Int32} (n : Nat) (hx : x = nI n := by rfl) (h : n < 2 ^ 31 := by omega) : x.toNatClampNeg = n := by
  subst hx
  exact nI_clamp h
theorem pk_tn {n : Nat} (h : n < 2 ^ 32) : (nI n).toBitVec.toNat = n := Nat.mod_eq_of_lt h
theorem pk_and (x : Int32) {m : Int32} (k : Nat) (hm : m.toBitVec.toNat = 2 ^ k - 1) : x &&& m = nI (x.toBitVec.toNat % 2 ^ k) := by
  apply Int32.toBitVec_inj.mp
  apply BitVec.eq_of_toNat_eq
  rw [Int32.toBitVec_and, BitVec.toNat_and, hm, Nat.and_two_pow_sub_one_eq_mod]
  show _ = (BitVec.ofNat 32 _).toNat
  rw [BitVec.toNat_ofNat]
  exact (Nat.mod_eq_of_lt (Nat.lt_of_le_of_lt (Nat.mod_le _ _) x.toBitVec.isLt)).symm
theorem pk_andN {n : Nat} (h : n < 2 ^ 32) {m : Int32} (k : Nat) (hm : m.toBitVec.toNat = 2 ^ k - 1) : nI n &&& m = nI (n % 2 ^ k) := by
  rw [pk_and _ k hm, pk_tn h]
/-! the overlay of f by G on the cells from o to o + k -/
def sh_ov (f G : Nat → Int32) (o k : Nat) : Nat → Int32 := fun j => if o ≤ j ∧ j < o + k then G j else f j
theorem sh_ov_0 (f G : Nat → Int32) (o : Nat) : sh_ov f G o 0 = f := by
  funext j
  exact if_neg (by omega)
theorem sh_ov_in {f G : Nat → Int32} {o k j : Nat} (h : o ≤ j) (h2 : j < o + k) : sh_ov f G o k j = G j := if_pos ⟨h, h2⟩
theorem sh_ov_out {f G : Nat → Int32} {o k j : Nat} (h : ¬ (o ≤ j ∧ j < o + k)) : sh_ov f G o k j = f j := if_neg h
theorem sh_ov_s {f G : Nat → Int32} {o k : Nat} {x : Int32} (h : x = G (o + k)) : upd (sh_ov f G o k) (o + k) x = sh_ov f G o (k + 1) := by
  subst h
  funext j
  show (if j = o + k then G (o + k) else if o ≤ j ∧ j < o + k then G j else f j) = (if o ≤ j ∧ j < o + (k + 1) then G j else f j)
  by_cases e : j = o + k
  · subst e
    rw [if_pos rfl, if_pos (by omega)]
  · rw [if_neg e]
    by_cases e2 : o ≤ j ∧ j < o + k
    · rw [if_pos e2, if_pos (by omega)]
    · rw [if_neg e2, if_neg (by omega)]
/-! one point on both sides, within the window; one polygon; the draft -/
def sh_Pt (x y x' y' : Int32) : Prop := ∃ a b : Nat, a ≤ 24 ∧ b ≤ 12 ∧ x = nI a ∧ y = nI b ∧ x' = nI a ∧ y' = nI b
def sh_Poly (pX pY xs ys pc : Nat → Int32) (p : Nat) : Prop := ∃ c : Nat, 3 ≤ c ∧ c ≤ 8 ∧ pc p = nI c ∧ ∀ k, k < c → sh_Pt (pX (8 * p + k)) (pY (8 * p + k)) (xs (8 * p + k)) (ys (8 * p + k))
def sh_All (m : Nat) (pX pY xs ys pc : Nat → Int32) : Prop := ∀ p, p < m → sh_Poly pX pY xs ys pc p
def sh_Dr (n : Nat) (aX aY xs ys : Nat → Int32) : Prop := ∀ k, k < n → sh_Pt (aX k) (aY k) (xs (48 + k)) (ys (48 + k))
/-! an owner, or a column: nobody is -1 in the class, -2 in the reference -/
def sh_x : Option Nat → Int32
  | none => -1
  | some q => nI q
def sh_y : Option Nat → Int32
  | none => -2
  | some q => nI q
def sh_ok (o : Option Nat) : Prop := ∀ q, o = some q → q < 100
theorem sh_t1 : ∀ q, q < 100 → ¬ nI q = -1 ∧ ¬ nI q = -2 ∧ ¬ nI q < 0 ∧ 0 ≤ nI q := by decide +kernel
theorem sh_okn : sh_ok none := fun _ h => nomatch h
theorem sh_oks {q : Nat} (h : q < 100) : sh_ok (some q) := fun _ e => by cases e; exact h
theorem sh_xi {a b : Option Nat} (ha : sh_ok a) (hb : sh_ok b) : sh_x a = sh_x b ↔ a = b := by
  constructor
  · intro h
    cases a with
    | none =>
      cases b with
      | none => rfl
      | some q => exact absurd h.symm (sh_t1 q (hb q rfl)).1
    | some p =>
      cases b with
      | none => exact absurd h (sh_t1 p (ha p rfl)).1
      | some q =>
        have := (nI_eq (a := p) (b := q) (by have := ha p rfl; omega) (by have := hb q rfl; omega)).mp h
        rw [this]
  · intro h; rw [h]
theorem sh_yi {a b : Option Nat} (ha : sh_ok a) (hb : sh_ok b) : sh_y a = sh_y b ↔ a = b := by
  constructor
  · intro h
    cases a with
    | none =>
      cases b with
      | none => rfl
      | some q => exact absurd h.symm (sh_t1 q (hb q rfl)).2.1
    | some p =>
      cases b with
      | none => exact absurd h (sh_t1 p (ha p rfl)).2.1
      | some q =>
        have := (nI_eq (a := p) (b := q) (by have := ha p rfl; omega) (by have := hb q rfl; omega)).mp h
        rw [this]
  · intro h; rw [h]
theorem sh_xn {a : Option Nat} (ha : sh_ok a) : sh_x a = -1 ↔ a = none := sh_xi (b := none) ha sh_okn
theorem sh_xs {a : Option Nat} {p : Nat} (ha : sh_ok a) (hp : p < 100) : sh_x a = nI p ↔ a = some p := sh_xi (b := some p) ha (sh_oks hp)
theorem sh_ys {a : Option Nat} {p : Nat} (ha : sh_ok a) (hp : p < 100) : sh_y a = nI p ↔ a = some p := sh_yi (b := some p) ha (sh_oks hp)
theorem sh_yl {a : Option Nat} (ha : sh_ok a) : sh_y a < 0 ↔ a = none := by
  cases a with
  | none => exact ⟨fun _ => rfl, fun _ => by decide⟩
  | some q => exact ⟨fun h => absurd h (sh_t1 q (ha q rfl)).2.2.1, fun h => nomatch h⟩
theorem sh_yg {a : Option Nat} (ha : sh_ok a) : 0 ≤ sh_y a ↔ ¬ a = none := by
  cases a with
  | none => exact ⟨fun h => absurd h (by decide), fun h => absurd rfl h⟩
  | some q => exact ⟨fun _ h => (nomatch h), fun _ => (sh_t1 q (ha q rfl)).2.2.2⟩
/-! a branch met through an equivalence -/
theorem sh_if {c d A B : Prop} (e : c ↔ d) (f : d → A) (g : ¬ d → B) : (c → A) ∧ (¬ c → B) := ⟨fun h => f (e.mp h), fun h => g (fun hd => h (e.mpr hd))⟩
end
section
/-! small products: the class's crossing and reach against the reference's d -/
theorem sh_mulB {a b : Int} (ha : -1000 ≤ a ∧ a ≤ 1000) (hb : -1000 ≤ b ∧ b ≤ 1000) : -1000000 ≤ a * b ∧ a * b ≤ 1000000 := by
  have h := Int.natAbs_mul a b
  have h1 : a.natAbs ≤ 1000 := by omega
  have h2 : b.natAbs ≤ 1000 := by omega
  have h3 := Nat.mul_le_mul h1 h2
  generalize a * b = c at *
  generalize a.natAbs * b.natAbs = e at *
  omega
theorem sh_mulT {x y : Int32} {a b : Int} (hx : x.toInt = a) (hy : y.toInt = b) (ha : -1000 ≤ a ∧ a ≤ 1000) (hb : -1000 ≤ b ∧ b ≤ 1000) : (x * y).toInt = a * b := by
  have h := sh_mulB ha hb
  rw [Int32.toInt_mul, hx, hy]
  generalize a * b = c at *
  exact Int.bmod_eq_of_le (by omega) (by omega)
theorem sh_addT {x y : Int32} {a b : Int} (hx : x.toInt = a) (hy : y.toInt = b) (ha : -1000000 ≤ a ∧ a ≤ 1000000) (hb : -1000000 ≤ b ∧ b ≤ 1000000) : (x + y).toInt = a + b := by
  rw [Int32.toInt_add, hx, hy]
  exact Int.bmod_eq_of_le (by omega) (by omega)
theorem sh_2 (a : Nat) : 2 * nI a = nI (2 * a) := pk_mul 2 a
theorem sh_int (A P a1 a2 b1 b2 : Int) : A * (2 * a2 - 2 * a1) = 2 * (A * (a2 - a1)) ∧ P * (2 * b2 - 2 * b1) = 2 * (P * (b2 - b1)) ∧ (-P) * (b2 - b1) = -(P * (b2 - b1)) := by
  refine ⟨by grind, by grind, by grind⟩
def sh_e1 (a1 b1 a2 b2 px py : Nat) : Int32 := (nI py - nI (2 * b1)) * (nI (2 * a2) - nI (2 * a1))
def sh_e2 (a1 b1 a2 b2 px py : Nat) : Int32 := (nI px - nI (2 * a1)) * (nI (2 * b2) - nI (2 * b1))
def sh_d (a1 b1 a2 b2 px py : Nat) : Int32 := ((2 * nI a1 - nI px) * (nI b2 - nI b1)) + ((nI py - 2 * nI b1) * (nI a2 - nI a1))
theorem sh_geo {a1 b1 a2 b2 px py : Nat} (h1 : a1 ≤ 24) (h2 : b1 ≤ 12) (h3 : a2 ≤ 24) (h4 : b2 ≤ 12) (hp : px ≤ 47) (hq : py ≤ 47) :
    (sh_e1 a1 b1 a2 b2 px py < sh_e2 a1 b1 a2 b2 px py ↔ sh_d a1 b1 a2 b2 px py < 0) ∧ (sh_e2 a1 b1 a2 b2 px py < sh_e1 a1 b1 a2 b2 px py ↔ ¬ sh_d a1 b1 a2 b2 px py ≤ 0) := by
  have t1 : (sh_e1 a1 b1 a2 b2 px py).toInt = ((py : Int) - 2 * b1) * (2 * a2 - 2 * a1) :=
    sh_mulT (by rw [pk_sub_toInt (by omega) (by omega)]; omega) (by rw [pk_sub_toInt (by omega) (by omega)]; omega) (by omega) (by omega)
  have t2 : (sh_e2 a1 b1 a2 b2 px py).toInt = ((px : Int) - 2 * a1) * (2 * b2 - 2 * b1) :=
    sh_mulT (by rw [pk_sub_toInt (by omega) (by omega)]; omega) (by rw [pk_sub_toInt (by omega) (by omega)]; omega) (by omega) (by omega)
  have t3 : (sh_d a1 b1 a2 b2 px py).toInt = (-((px : Int) - 2 * a1)) * ((b2 : Int) - b1) + ((py : Int) - 2 * b1) * ((a2 : Int) - a1) := by
    unfold sh_d
    refine sh_addT ?_ ?_ (sh_mulB (by omega) (by omega)) (sh_mulB (by omega) (by omega))
    · refine sh_mulT ?_ (pk_sub_toInt (by omega) (by omega)) (by omega) (by omega)
      rw [sh_2, pk_sub_toInt (by omega) (by omega)]; omega
    · refine sh_mulT ?_ (pk_sub_toInt (by omega) (by omega)) (by omega) (by omega)
      rw [sh_2, pk_sub_toInt (by omega) (by omega)]; omega
  obtain ⟨r1, r2, r3⟩ := sh_int ((py : Int) - 2 * b1) ((px : Int) - 2 * a1) a1 a2 b1 b2
  rw [Int32.lt_iff_toInt_lt, Int32.lt_iff_toInt_lt, Int32.lt_iff_toInt_lt, Int32.le_iff_toInt_le, t1, t2, t3, r1, r2, r3, show (0 : Int32).toInt = 0 from by decide]
  generalize ((py : Int) - 2 * b1) * ((a2 : Int) - a1) = U
  generalize ((px : Int) - 2 * a1) * ((b2 : Int) - b1) = V
  omega
/-! the bit of one edge -/
def sh_cr (a1 b1 a2 b2 px py : Nat) : Int32 :=
  if 2 * b1 < py ∧ py < 2 * b2 then (if sh_d a1 b1 a2 b2 px py ≤ 0 then 1 else 0)
  else if 2 * b2 < py ∧ py < 2 * b1 then (if sh_d a1 b1 a2 b2 px py < 0 then 0 else 1) else 0
theorem sh_cr_01 (a1 b1 a2 b2 px py : Nat) : sh_cr a1 b1 a2 b2 px py = 0 ∨ sh_cr a1 b1 a2 b2 px py = 1 := by
  unfold sh_cr
  split
  · split
    · exact Or.inr rfl
    · exact Or.inl rfl
  · split
    · split
      · exact Or.inl rfl
      · exact Or.inr rfl
    · exact Or.inl rfl
theorem sh_cr_d1 {a1 b1 a2 b2 px py : Nat} (h : 2 * b1 < py) (h2 : py < 2 * b2) (h3 : sh_d a1 b1 a2 b2 px py ≤ 0) : sh_cr a1 b1 a2 b2 px py = 1 := by
  unfold sh_cr; rw [if_pos ⟨h, h2⟩, if_pos h3]
theorem sh_cr_d0 {a1 b1 a2 b2 px py : Nat} (h : 2 * b1 < py) (h2 : py < 2 * b2) (h3 : ¬ sh_d a1 b1 a2 b2 px py ≤ 0) : sh_cr a1 b1 a2 b2 px py = 0 := by
  unfold sh_cr; rw [if_pos ⟨h, h2⟩, if_neg h3]
theorem sh_cr_u0 {a1 b1 a2 b2 px py : Nat} (h : 2 * b2 < py) (h2 : py < 2 * b1) (h3 : sh_d a1 b1 a2 b2 px py < 0) : sh_cr a1 b1 a2 b2 px py = 0 := by
  unfold sh_cr; rw [if_neg (by omega), if_pos ⟨h, h2⟩, if_pos h3]
theorem sh_cr_u1 {a1 b1 a2 b2 px py : Nat} (h : 2 * b2 < py) (h2 : py < 2 * b1) (h3 : ¬ sh_d a1 b1 a2 b2 px py < 0) : sh_cr a1 b1 a2 b2 px py = 1 := by
  unfold sh_cr; rw [if_neg (by omega), if_pos ⟨h, h2⟩, if_neg h3]
theorem sh_cr_n {a1 b1 a2 b2 px py : Nat} (h : ¬ (2 * b1 < py ∧ py < 2 * b2)) (h2 : ¬ (2 * b2 < py ∧ py < 2 * b1)) : sh_cr a1 b1 a2 b2 px py = 0 := by
  unfold sh_cr; rw [if_neg h, if_neg h2]
section
variable (post : Int32 → Prop) (dp A B C pg : Int32) (aX aY pX pY pc qA qB qC xs ys : Nat → Int32)
theorem sh_X94d {a1 b1 a2 b2 px py : Nat} (h1 : a1 ≤ 24) (h2 : b1 ≤ 12) (h3 : a2 ≤ 24) (h4 : b2 ≤ 12) (hp : px ≤ 47) (hq : py ≤ 47) (g : 2 * b1 < py) (g2 : py < 2 * b2) (h : post (sh_cr a1 b1 a2 b2 px py)) :
    wX_crossesUpTo_94 post (nI px) (nI py) (nI (2 * a1)) (nI (2 * b1)) (nI (2 * a2)) (nI (2 * b2)) 1 dp A B C pg aX aY pX pY pc qA qB qC := by
  have G := (sh_geo h1 h2 h3 h4 hp hq).2
  refine nm_e (nm_e (br_f (by decide) (sh_if G (fun z => ?_) (fun z => ?_))))
  · rw [sh_cr_d0 g g2 z] at h; exact h
  · rw [sh_cr_d1 g g2 (Decidable.not_not.mp z)] at h; exact h
theorem sh_X94u {a1 b1 a2 b2 px py : Nat} (h1 : a1 ≤ 24) (h2 : b1 ≤ 12) (h3 : a2 ≤ 24) (h4 : b2 ≤ 12) (hp : px ≤ 47) (hq : py ≤ 47) (g : 2 * b2 < py) (g2 : py < 2 * b1) (h : post (sh_cr a1 b1 a2 b2 px py)) :
    wX_crossesUpTo_94 post (nI px) (nI py) (nI (2 * a1)) (nI (2 * b1)) (nI (2 * a2)) (nI (2 * b2)) 0 dp A B C pg aX aY pX pY pc qA qB qC := by
  have G := (sh_geo h1 h2 h3 h4 hp hq).1
  refine nm_e (nm_e (br_t rfl (sh_if G (fun z => ?_) (fun z => ?_))))
  · rw [sh_cr_u0 g g2 z] at h; exact h
  · rw [sh_cr_u1 g g2 z] at h; exact h
theorem sh_X59 {a1 b1 a2 b2 px py : Nat} (h1 : a1 ≤ 24) (h2 : b1 ≤ 12) (h3 : a2 ≤ 24) (h4 : b2 ≤ 12) (hp : px ≤ 47) (hq : py ≤ 47) (g : ¬ (2 * b1 < py ∧ py < 2 * b2)) (h : post (sh_cr a1 b1 a2 b2 px py)) :
    wX_crossesUpTo_59 post (nI px) (nI py) (nI (2 * a1)) (nI (2 * b1)) (nI (2 * a2)) (nI (2 * b2)) 0 dp A B C pg aX aY pX pY pc qA qB qC := by
  refine pk_le py (2 * b2) (fun z => ?_) (fun z => pk_le (2 * b1) py (fun y => ?_) (fun y => ?_))
  · rw [sh_cr_n g (by omega)] at h
    exact br_t rfl (br_t rfl h)
  · rw [sh_cr_n g (by omega)] at h
    exact br_t rfl (br_t rfl h)
  · exact br_t rfl (br_f (by decide) (sh_X94u post dp A B C pg aX aY pX pY pc qA qB qC h1 h2 h3 h4 hp hq z y h))
theorem sh_crX {s t a1 b1 a2 b2 px py : Nat} (hs : s < 48) (ht : t < 48) (h1 : a1 ≤ 24) (h2 : b1 ≤ 12) (h3 : a2 ≤ 24) (h4 : b2 ≤ 12) (hp : px ≤ 47) (hq : py ≤ 47)
    (e1 : pX s = nI a1) (e2 : pY s = nI b1) (e3 : pX t = nI a2) (e4 : pY t = nI b2) (h : post (sh_cr a1 b1 a2 b2 px py)) :
    wpX_crossesUpTo post (dp, A, B, C, pg, aX, aY, pX, pY, pc, qA, qB, qC) (nI s) (nI t) (nI px) (nI py) := by
  have i1 : vp_in (nI s) 48 := vp_in_nI hs (by decide)
  have i2 : vp_in (nI t) 48 := vp_in_nI ht (by decide)
  refine ⟨i1, nm_r (e' := nI (2 * a1)) (by rw [nI_clamp (by omega), e1, sh_2]) ⟨i1, nm_r (e' := nI (2 * b1)) (by rw [nI_clamp (by omega), e2, sh_2]) ⟨i2, nm_r (e' := nI (2 * a2)) (by rw [nI_clamp (by omega), e3, sh_2]) ⟨i2, nm_r (e' := nI (2 * b2)) (by rw [nI_clamp (by omega), e4, sh_2]) ?_⟩⟩⟩⟩
  refine pk_le py (2 * b1) (fun z => ?_) (fun z => pk_le (2 * b2) py (fun y => ?_) (fun y => ?_))
  · exact sh_X59 post dp A B C pg aX aY pX pY pc qA qB qC h1 h2 h3 h4 hp hq (by omega) h
  · exact sh_X59 post dp A B C pg aX aY pX pY pc qA qB qC h1 h2 h3 h4 hp hq (by omega) h
  · refine pk_le py (2 * b2) (fun _ => ?_) (fun w => absurd w (by omega))
    exact br_f (by decide) (sh_X94d post dp A B C pg aX aY pX pY pc qA qB qC h1 h2 h3 h4 hp hq z y h)
/-! the reference's left -/
theorem sh_Y104 {a1 b1 a2 b2 px py : Nat} (h1 : a1 ≤ 24) (h2 : b1 ≤ 12) (h3 : a2 ≤ 24) (h4 : b2 ≤ 12) (hp : px ≤ 47) (hq : py ≤ 47) (g : ¬ (2 * b1 < py ∧ py < 2 * b2)) (h : post (sh_cr a1 b1 a2 b2 px py)) :
    wY_left_104 post (nI px) (nI py) (nI a1) (nI b1) (nI a2) (nI b2) 0 dp A B C pg xs ys pc qA qB qC := by
  refine pk_le py (2 * b2) (fun z => ?_) (fun z => pk_le (2 * b1) py (fun y => ?_) (fun y => ?_) (sh_2 b1)) rfl (sh_2 b2)
  · rw [sh_cr_n g (by omega)] at h
    exact nm_e (br_t rfl (br_t rfl h))
  · rw [sh_cr_n g (by omega)] at h
    exact nm_e (br_t rfl (br_t rfl h))
  · refine nm_e (br_t rfl (br_f (by decide) (br_c (fun w => ?_) (fun w => ?_))))
    · rw [sh_cr_u0 z y w] at h; exact h
    · rw [sh_cr_u1 z y w] at h; exact h
theorem sh_Y19 {p k k' a1 b1 a2 b2 px py : Nat} (hp6 : p < 6) (hk : k < 8) (hk' : k' < 8) (h1 : a1 ≤ 24) (h2 : b1 ≤ 12) (h3 : a2 ≤ 24) (h4 : b2 ≤ 12) (hp : px ≤ 47) (hq : py ≤ 47)
    (e1 : xs (8 * p + k) = nI a1) (e2 : ys (8 * p + k) = nI b1) (e3 : xs (8 * p + k') = nI a2) (e4 : ys (8 * p + k') = nI b2) (h : post (sh_cr a1 b1 a2 b2 px py)) :
    wY_left_19 post (nI p) (nI k) (nI px) (nI py) (nI k') dp A B C pg xs ys pc qA qB qC := by
  have w1 : 8 * nI p + nI k = nI (8 * p + k) := by
    have e : 8 * nI p = nI (8 * p) := pk_mul 8 p
    rw [e, nI_add]
  have w2 : 8 * nI p + (nI k' &&& 7) = nI (8 * p + k') := by
    have e : 8 * nI p = nI (8 * p) := pk_mul 8 p
    rw [pk_andN (by omega) 3 (by decide), Nat.mod_eq_of_lt (by omega), e, nI_add]
  have i1 : vp_in (8 * nI p + nI k) 56 := by rw [w1]; exact vp_in_nI (by omega) (by decide)
  have i2 : vp_in (8 * nI p + (nI k' &&& 7)) 56 := by rw [w2]; exact vp_in_nI (by omega) (by decide)
  refine ⟨i1, nm_r (e' := nI a1) (by rw [w1, nI_clamp (by omega), e1]) ⟨i1, nm_r (e' := nI b1) (by rw [w1, nI_clamp (by omega), e2]) ⟨i2, nm_r (e' := nI a2) (by rw [w2, nI_clamp (by omega), e3]) ⟨i2, nm_r (e' := nI b2) (by rw [w2, nI_clamp (by omega), e4]) ?_⟩⟩⟩⟩
  refine pk_le py (2 * b1) (fun z => ?_) (fun z => pk_le (2 * b2) py (fun y => ?_) (fun y => ?_) (sh_2 b2)) rfl (sh_2 b1)
  · exact sh_Y104 post dp A B C pg pc qA qB qC xs ys h1 h2 h3 h4 hp hq (by omega) h
  · exact sh_Y104 post dp A B C pg pc qA qB qC xs ys h1 h2 h3 h4 hp hq (by omega) h
  · refine pk_le py (2 * b2) (fun _ => ?_) (fun w => absurd w (by omega)) rfl (sh_2 b2)
    refine nm_e (br_f (by decide) (br_c (fun w => ?_) (fun w => ?_)))
    · rw [sh_cr_d1 z y w] at h; exact h
    · rw [sh_cr_d0 z y w] at h; exact br_t rfl h
end
end
section
/-! one edge flips the bit; a whole polygon; both sides give the same bit -/
theorem sh_nar {o : Int32} (h : o = 0 ∨ o = 1) : narrow .boolean (.int o) = .int o := by
  have e : lw_bz o = o := by
    rcases h with rfl | rfl
    · rfl
    · rfl
  have z := lw_bz_n o
  rw [e] at z
  exact z
def sh_fl (b o : Int32) : Int32 := if b = 0 then o else if o = 0 then 1 else 0
theorem sh_fl_01 {b o : Int32} (h : o = 0 ∨ o = 1) : sh_fl b o = 0 ∨ sh_fl b o = 1 := by
  unfold sh_fl
  split
  · exact h
  · split
    · exact Or.inr rfl
    · exact Or.inl rfl
theorem sh_flp {J : Int32 → Int32 → Prop} {b o : Int32} {k : Nat} (h : J (sh_fl b o) (nI (k + 1))) :
    ((b = 0 → (∀ y, y = nI k + 1 → J o y)) ∧ (¬ b = 0 → ((o = 0 → (∀ y, y = nI k + 1 → J 1 y)) ∧ (¬ o = 0 → ∀ y, y = nI k + 1 → J 0 y)))) := by
  unfold sh_fl at h
  refine br_c (fun z => ?_) (fun z => br_c (fun w => ?_) (fun w => ?_))
  · rw [if_pos z] at h; exact nm_r (nI_1 k) h
  · rw [if_neg z, if_pos w] at h; exact nm_r (nI_1 k) h
  · rw [if_neg z, if_neg w] at h; exact nm_r (nI_1 k) h
def sh_nx (c k : Nat) : Nat := if c ≤ k + 1 then 0 else k + 1
theorem sh_nx_lt {c k : Nat} (h : k < c) : sh_nx c k < c := by
  unfold sh_nx
  split
  · omega
  · omega
section
variable (dp A B C pg : Int32) (aX aY pX pY pc qA qB qC xs ys : Nat → Int32)
theorem sh_X58 (post : Int32 → Prop) (J : Int32 → Int32 → Prop) {p k k' a1 b1 a2 b2 px py : Nat} {x7 o z : Int32} (hp6 : p < 6) (hk : k < 8) (hk' : k' < 8) (h1 : a1 ≤ 24) (h2 : b1 ≤ 12) (h3 : a2 ≤ 24) (h4 : b2 ≤ 12) (hp : px ≤ 47) (hq : py ≤ 47)
    (e1 : pX (8 * p + k) = nI a1) (e2 : pY (8 * p + k) = nI b1) (e3 : pX (8 * p + k') = nI a2) (e4 : pY (8 * p + k') = nI b2) (hz : z = nI k') (h : J (sh_fl (sh_cr a1 b1 a2 b2 px py) o) (nI (k + 1))) :
    wX_isCovered_58 post J (nI px) (nI py) (nI (8 * p)) x7 o (nI k) z dp A B C pg aX aY pX pY pc qA qB qC := by
  subst hz
  unfold wX_isCovered_58
  rw [nI_add (8 * p) k, nI_add (8 * p) k']
  exact sh_crX _ dp A B C pg aX aY pX pY pc qA qB qC (by omega) (by omega) h1 h2 h3 h4 hp hq e1 e2 e3 e4 (sh_flp h)
theorem sh_lfY (post : Int32 → Prop) {p k c a1 b1 a2 b2 px py : Nat} {P Q : Int32} (hp6 : p < 6) (hk : k < c) (hc8 : c ≤ 8) (hc : pc p = nI c) (h1 : a1 ≤ 24) (h2 : b1 ≤ 12) (h3 : a2 ≤ 24) (h4 : b2 ≤ 12) (hp : px ≤ 47) (hq : py ≤ 47)
    (e1 : xs (8 * p + k) = nI a1) (e2 : ys (8 * p + k) = nI b1) (e3 : xs (8 * p + sh_nx c k) = nI a2) (e4 : ys (8 * p + sh_nx c k) = nI b2) (hP : P = nI px) (hQ : Q = nI py) (h : post (sh_cr a1 b1 a2 b2 px py)) :
    wpY_left post (dp, A, B, C, pg, xs, ys, pc, qA, qB, qC) (nI p) (nI k) P Q := by
  subst hP hQ
  have hl := sh_nx_lt hk
  refine ⟨vp_in_nI hp6 (by decide), pk_le c (k + 1) (fun z => ?_) (fun z => ?_) (by rw [nI_clamp (by omega), hc]) (nI_1 k)⟩
  · have hn : sh_nx c k = 0 := if_pos z
    rw [hn] at e3 e4
    exact sh_Y19 post dp A B C pg pc qA qB qC xs ys (k' := 0) hp6 (by omega) (by omega) h1 h2 h3 h4 hp hq e1 e2 e3 e4 h
  · have hn : sh_nx c k = k + 1 := if_neg (by omega)
    rw [hn] at e3 e4
    rw [nI_1 k]
    exact sh_Y19 post dp A B C pg pc qA qB qC xs ys (k' := k + 1) hp6 (by omega) (by omega) h1 h2 h3 h4 hp hq e1 e2 e3 e4 h
theorem sh_covL {p c i j : Nat} (hp6 : p < 6) (hi : i < 24) (hj : j < 12) (hc8 : c ≤ 8) (hc : pc p = nI c)
    (hP : ∀ k, k < c → sh_Pt (pX (8 * p + k)) (pY (8 * p + k)) (xs (8 * p + k)) (ys (8 * p + k))) :
    ∀ d k : Nat, ∀ o : Int32, k + d = c → (o = 0 ∨ o = 1) → ∃ r : Int32, (r = 0 ∨ r = 1) ∧
      (∀ post : Int32 → Prop, post r → wX_isCovered_34 post (nI (2 * i + 1)) (nI (2 * j + 1)) (nI (8 * p)) (nI c) dp A B C pg aX aY pX pY pc qA qB qC (d + 1) o (nI k)) ∧
      (∀ post : Int32 → Prop, post r → wY_covering_6 post (nI p) (nI i) (nI j) dp A B C pg xs ys pc qA qB qC (d + 1) o (nI k)) := by
  intro d
  induction d with
  | zero =>
    intro k o hk ho
    refine ⟨o, ho, fun post hp => ?_, fun post hp => ?_⟩
    · exact br_t (nI_le (by omega) (by omega)) ⟨sh_nar ho, hp⟩
    · refine ⟨vp_in_nI hp6 (by decide), br_t ?_ ⟨sh_nar ho, hp⟩⟩
      rw [nI_clamp (by omega), hc]
      exact nI_le (by omega) (by omega)
  | succ d ih =>
    intro k o hk ho
    have hkc : k < c := by omega
    obtain ⟨a1, b1, h1, h2, e1, e2, f1, f2⟩ := hP k hkc
    obtain ⟨a2, b2, h3, h4, e3, e4, f3, f4⟩ := hP _ (sh_nx_lt hkc)
    obtain ⟨r, hr, HX, HY⟩ := ih (k + 1) (sh_fl (sh_cr a1 b1 a2 b2 (2 * i + 1) (2 * j + 1)) o) (by omega) (sh_fl_01 ho)
    refine ⟨r, hr, fun post hp => ?_, fun post hp => ?_⟩
    · refine br_f (nI_ge hkc (by omega)) (pk_le c (k + 1) (fun z => ?_) (fun z => ?_) rfl (nI_1 k))
      · have hn : sh_nx c k = 0 := if_pos z
        rw [hn] at e3 e4
        exact sh_X58 dp A B C pg aX aY pX pY pc qA qB qC post _ (k' := 0) hp6 (by omega) (by omega) h1 h2 h3 h4 (by omega) (by omega) e1 e2 e3 e4 rfl (HX post hp)
      · have hn : sh_nx c k = k + 1 := if_neg (by omega)
        rw [hn] at e3 e4
        exact sh_X58 dp A B C pg aX aY pX pY pc qA qB qC post _ (k' := k + 1) hp6 (by omega) (by omega) h1 h2 h3 h4 (by omega) (by omega) e1 e2 e3 e4 (nI_1 k) (HX post hp)
    · refine ⟨vp_in_nI hp6 (by decide), br_f ?_ (br_f (nI_ge (b := 8) (by omega) (by decide)) ?_)⟩
      · rw [nI_clamp (by omega), hc]
        exact nI_ge hkc (by omega)
      · refine sh_lfY dp A B C pg pc qA qB qC xs ys _ hp6 hkc hc8 hc h1 h2 h3 h4 (px := 2 * i + 1) (py := 2 * j + 1) (by omega) (by omega) f1 f2 f3 f4 ?_ ?_ (sh_flp (HY post hp))
        · rw [sh_2, nI_1]
        · rw [sh_2, nI_1]
theorem sh_cov {p i j : Nat} (hp6 : p < 6) (hi : i < 24) (hj : j < 12) (hP : sh_Poly pX pY xs ys pc p) :
    ∃ r : Int32, (r = 0 ∨ r = 1) ∧
      (∀ post : Int32 → Prop, post r → wpX_isCovered post (dp, A, B, C, pg, aX, aY, pX, pY, pc, qA, qB, qC) (nI p) (nI i) (nI j)) ∧
      (∀ post : Int32 → Prop, post r → wpY_covering post (dp, A, B, C, pg, xs, ys, pc, qA, qB, qC) (nI p) (nI i) (nI j)) := by
  obtain ⟨c, _, hc8, hc, hP⟩ := hP
  obtain ⟨r, hr, HX, HY⟩ := sh_covL dp A B C pg aX aY pX pY pc qA qB qC xs ys hp6 hi hj hc8 hc hP c 0 0 (by omega) (Or.inl rfl)
  refine ⟨r, hr, fun post hp => ?_, fun post hp => ?_⟩
  · refine nm_r (e' := nI (2 * i + 1)) (by rw [sh_2, nI_1]) (nm_r (e' := nI (2 * j + 1)) (by rw [sh_2, nI_1]) (nm_r (e' := nI (8 * p)) (by rw [Nat.mul_comm]; exact pk_mul p 8) ⟨vp_in_nI hp6 (by decide), nm_r (e' := nI c) (by rw [nI_clamp (by omega), hc]) ⟨c + 1, HX post hp⟩⟩))
  · exact ⟨c + 1, HY post hp⟩
/-! depth and owner -/
def sh_dep (q : Nat) (i j : Int32) : Int32 := ((qA q * (2 * i + 1)) + (qB q * (2 * j + 1))) + qC q
theorem sh_dX (post : Int32 → Prop) {q : Nat} {i j : Int32} (hq : q < 6) (h : post (sh_dep qA qB qC q i j)) : wpX_depthOf post (dp, A, B, C, pg, aX, aY, pX, pY, pc, qA, qB, qC) (nI q) i j := by
  have hi : vp_in (nI q) 6 := vp_in_nI hq (by decide)
  refine nm_e (nm_e ⟨hi, hi, hi, ?_⟩)
  rw [nI_clamp (by omega)]
  exact h
theorem sh_dY (post : Int32 → Prop) {q : Nat} {i j : Int32} (hq : q < 6) (h : post (sh_dep qA qB qC q i j)) : wpY_depth post (dp, A, B, C, pg, xs, ys, pc, qA, qB, qC) (nI q) i j := by
  have hi : vp_in (nI q) 6 := vp_in_nI hq (by decide)
  refine ⟨hi, hi, hi, ?_⟩
  rw [nI_clamp (by omega)]
  exact h
theorem sh_ownL {m i j : Nat} (hm : m ≤ 6) (hi : i < 24) (hj : j < 12) (hA : sh_All m pX pY xs ys pc) :
    ∀ d p : Nat, ∀ o : Option Nat, ∀ bd : Int32, p + d = m → (∀ q, o = some q → q < m ∧ bd = sh_dep qA qB qC q (nI i) (nI j)) → ∃ r : Option Nat, (∀ q, r = some q → q < m) ∧
      (∀ post : Int32 → Prop, post (sh_x r) → wX_ownerOf_8 post (nI i) (nI j) dp A B C (nI m) aX aY pX pY pc qA qB qC (d + 1) (sh_x o) bd (nI p)) ∧
      (∀ post : Int32 → Prop, post (sh_y r) → wY_ownerOf_6 post (nI i) (nI j) dp A B C (nI m) xs ys pc qA qB qC (d + 1) (sh_y o) (nI p)) := by
  intro d
  induction d with
  | zero =>
    intro p o bd hp ho
    exact ⟨o, fun q e => (ho q e).1, fun post h => br_t (nI_le (by omega) (by omega)) h, fun post h => br_t (nI_le (by omega) (by omega)) h⟩
  | succ d ih =>
    intro p o bd hp ho
    have hpm : p < m := by omega
    have x1 : ¬ nI m ≤ nI p := nI_ge hpm (by omega)
    have x2 : ¬ (6 : Int32) ≤ nI p := nI_ge (b := 6) (by omega) (by decide)
    obtain ⟨b, hb, CX, CY⟩ := sh_cov dp A B C (nI m) aX aY pX pY pc qA qB qC xs ys (by omega) hi hj (hA p hpm)
    by_cases b0 : b = 0
    · obtain ⟨r, hr, HX, HY⟩ := ih (p + 1) o bd (by omega) ho
      refine ⟨r, hr, fun post h => br_f x1 (CX _ (br_t b0 (nm_r (nI_1 p) (HX post h)))), fun post h => br_f x1 (br_f x2 (CY _ (br_t b0 (nm_r (nI_1 p) (HY post h)))))⟩
    · cases o with
      | none =>
        obtain ⟨r, hr, HX, HY⟩ := ih (p + 1) (some p) (sh_dep qA qB qC p (nI i) (nI j)) (by omega) (fun q e => by cases e; exact ⟨hpm, rfl⟩)
        refine ⟨r, hr, fun post h => br_f x1 (CX _ (br_f b0 ?_)), fun post h => br_f x1 (br_f x2 (CY _ (br_f b0 ?_)))⟩
        · exact sh_dX dp A B C (nI m) aX aY pX pY pc qA qB qC _ (by omega) (br_t rfl (nm_r (nI_1 p) (HX post h)))
        · exact br_f (by decide) (nm_r (nI_1 p) (HY post h))
      | some q =>
        obtain ⟨hq, rfl⟩ := ho q rfl
        have y1 : ¬ nI q = -1 := (sh_t1 q (by omega)).1
        have y2 : 0 ≤ nI q := (sh_t1 q (by omega)).2.2.2
        by_cases le : sh_dep qA qB qC q (nI i) (nI j) ≤ sh_dep qA qB qC p (nI i) (nI j)
        · obtain ⟨r, hr, HX, HY⟩ := ih (p + 1) (some q) (sh_dep qA qB qC q (nI i) (nI j)) (by omega) (fun q' e => by cases e; exact ⟨hq, rfl⟩)
          refine ⟨r, hr, fun post h => br_f x1 (CX _ (br_f b0 ?_)), fun post h => br_f x1 (br_f x2 (CY _ (br_f b0 ?_)))⟩
          · exact sh_dX dp A B C (nI m) aX aY pX pY pc qA qB qC _ (by omega) (br_f y1 (br_t le (nm_r (nI_1 p) (HX post h))))
          · exact br_t y2 (sh_dY dp A B C (nI m) pc qA qB qC xs ys _ (by omega) (sh_dY dp A B C (nI m) pc qA qB qC xs ys _ (by omega) (br_t le (nm_r (nI_1 p) (HY post h)))))
        · obtain ⟨r, hr, HX, HY⟩ := ih (p + 1) (some p) (sh_dep qA qB qC p (nI i) (nI j)) (by omega) (fun q' e => by cases e; exact ⟨hpm, rfl⟩)
          refine ⟨r, hr, fun post h => br_f x1 (CX _ (br_f b0 ?_)), fun post h => br_f x1 (br_f x2 (CY _ (br_f b0 ?_)))⟩
          · exact sh_dX dp A B C (nI m) aX aY pX pY pc qA qB qC _ (by omega) (br_f y1 (br_f le (nm_r (nI_1 p) (HX post h))))
          · exact br_t y2 (sh_dY dp A B C (nI m) pc qA qB qC xs ys _ (by omega) (sh_dY dp A B C (nI m) pc qA qB qC xs ys _ (by omega) (br_f le (nm_r (nI_1 p) (HY post h)))))
theorem sh_own1 {m i j : Nat} (hm : m ≤ 6) (hi : i < 24) (hj : j < 12) (hA : sh_All m pX pY xs ys pc) : ∃ r : Option Nat, (∀ q, r = some q → q < m) ∧
      (∀ post : Int32 → Prop, post (sh_x r) → wpX_ownerOf post (dp, A, B, C, nI m, aX, aY, pX, pY, pc, qA, qB, qC) (nI i) (nI j)) ∧
      (∀ post : Int32 → Prop, post (sh_y r) → wpY_ownerOf post (dp, A, B, C, nI m, xs, ys, pc, qA, qB, qC) (nI i) (nI j)) := by
  obtain ⟨r, hr, HX, HY⟩ := sh_ownL dp A B C aX aY pX pY pc qA qB qC xs ys hm hi hj hA m 0 none 0 (by omega) (fun q e => nomatch e)
  exact ⟨r, hr, fun post h => ⟨m + 1, HX post h⟩, fun post h => ⟨m + 1, HY post h⟩⟩
end
end
section
/-! the owner as a function of the pixel, and the questions' loops over it -/
def sh_O (u : SX) (v : SY) (f : Nat → Nat → Option Nat) : Prop := ∀ i j : Nat, i < 24 → j < 12 → (∀ q, f i j = some q → q < 6) ∧
  (∀ post : Int32 → Prop, post (sh_x (f i j)) → wpX_ownerOf post u (nI i) (nI j)) ∧ (∀ post : Int32 → Prop, post (sh_y (f i j)) → wpY_ownerOf post v (nI i) (nI j))
theorem sh_Ok {u : SX} {v : SY} {f : Nat → Nat → Option Nat} (h : sh_O u v f) {i j : Nat} (hi : i < 24) (hj : j < 12) : sh_ok (f i j) := fun q e => by
  have := (h i j hi hj).1 q e
  omega
theorem sh_ix (x : Int32) {n : Nat} (hn : n < 2 ^ 31) : x < 0 ∨ (¬ x < 0 ∧ nI n ≤ x) ∨ ∃ j : Nat, j < n ∧ x = nI j := by
  by_cases h : x < 0
  · exact Or.inl h
  · obtain ⟨j, hj, rfl⟩ := nI_of h
    by_cases h2 : j < n
    · exact Or.inr (Or.inr ⟨j, h2, rfl⟩)
    · exact Or.inr (Or.inl ⟨h, nI_le (by omega) hj⟩)
theorem sh_nle {x a b : Int32} (h : a ≤ x) (hab : b < a) : ¬ x ≤ b := by
  rw [Int32.le_iff_toInt_le] at *
  rw [Int32.lt_iff_toInt_lt] at hab
  omega
section
variable {dp A B C pg : Int32} {aX aY pX pY pc qA qB qC xs ys : Nat → Int32}
theorem sh_own {m : Nat} (hm : m ≤ 6) (hA : sh_All m pX pY xs ys pc) : ∃ f : Nat → Nat → Option Nat, sh_O (dp, A, B, C, nI m, aX, aY, pX, pY, pc, qA, qB, qC) (dp, A, B, C, nI m, xs, ys, pc, qA, qB, qC) f := by
  have h : ∀ x : Nat × Nat, ∃ r : Option Nat, x.1 < 24 → x.2 < 12 → ((∀ q, r = some q → q < 6) ∧
      (∀ post : Int32 → Prop, post (sh_x r) → wpX_ownerOf post (dp, A, B, C, nI m, aX, aY, pX, pY, pc, qA, qB, qC) (nI x.1) (nI x.2)) ∧
      (∀ post : Int32 → Prop, post (sh_y r) → wpY_ownerOf post (dp, A, B, C, nI m, xs, ys, pc, qA, qB, qC) (nI x.1) (nI x.2))) := by
    intro x
    by_cases hx : x.1 < 24 ∧ x.2 < 12
    · obtain ⟨r, hr, HX, HY⟩ := sh_own1 dp A B C aX aY pX pY pc qA qB qC xs ys hm hx.1 hx.2 hA
      exact ⟨r, fun _ _ => ⟨fun q e => Nat.lt_of_lt_of_le (hr q e) hm, HX, HY⟩⟩
    · exact ⟨none, fun h1 h2 => absurd ⟨h1, h2⟩ hx⟩
  obtain ⟨g, hg⟩ := Classical.axiomOfChoice h
  exact ⟨fun i j => g (i, j), fun i j hi hj => hg (i, j) hi hj⟩
/-! rows, pixels, drawn -/
theorem sh_rX1 (post : Int32 → Prop) {j : Nat} (hj : j < 12) (h : post 1) : wpX_isRow post (nI j) := br_f (nI_pos (by omega)) (br_f (nI_ge (b := 12) hj (by decide)) h)
theorem sh_rX0 (post : Int32 → Prop) {x : Int32} (hx : x < 0 ∨ (¬ x < 0 ∧ nI 12 ≤ x)) (h : post 0) : wpX_isRow post x := by
  rcases hx with z | ⟨z, w⟩
  · exact br_t z h
  · exact br_f z (br_t w h)
theorem sh_rY0 (post : Int32 → Prop) {j : Nat} (hj : j < 12) (h : post 0) : wpY_badRow post (dp, A, B, C, pg, xs, ys, pc, qA, qB, qC) (nI j) := br_f (nI_pos (by omega)) (br_t (nI_le (b := 11) (by omega) (by decide)) h)
theorem sh_rY1 (post : Int32 → Prop) {x : Int32} (hx : x < 0 ∨ (¬ x < 0 ∧ nI 12 ≤ x)) (h : post 1) : wpY_badRow post (dp, A, B, C, pg, xs, ys, pc, qA, qB, qC) x := by
  rcases hx with z | ⟨z, w⟩
  · exact br_t z h
  · exact br_f z (br_f (sh_nle w (by decide)) h)
theorem sh_cY0 (post : Int32 → Prop) {i : Nat} (hi : i < 24) (h : post 0) : wpY_badColumn post (dp, A, B, C, pg, xs, ys, pc, qA, qB, qC) (nI i) := br_f (nI_pos (by omega)) (br_t (nI_le (b := 23) (by omega) (by decide)) h)
theorem sh_cY1 (post : Int32 → Prop) {x : Int32} (hx : x < 0 ∨ (¬ x < 0 ∧ nI 24 ≤ x)) (h : post 1) : wpY_badColumn post (dp, A, B, C, pg, xs, ys, pc, qA, qB, qC) x := by
  rcases hx with z | ⟨z, w⟩
  · exact br_t z h
  · exact br_f z (br_f (sh_nle w (by decide)) h)
theorem sh_pX1 (post : Int32 → Prop) {i j : Nat} (hi : i < 24) (hj : j < 12) (h : post 1) : wpX_isPixel post (nI i) (nI j) :=
  br_f (nI_pos (by omega)) (br_f (nI_ge (b := 24) hi (by decide)) (sh_rX1 _ hj (br_f (by decide) h)))
theorem sh_pXr (post : Int32 → Prop) {i : Nat} {y : Int32} (hi : i < 24) (hy : y < 0 ∨ (¬ y < 0 ∧ nI 12 ≤ y)) (h : post 0) : wpX_isPixel post (nI i) y :=
  br_f (nI_pos (by omega)) (br_f (nI_ge (b := 24) hi (by decide)) (sh_rX0 _ hy (br_t rfl h)))
theorem sh_pXc (post : Int32 → Prop) {x y : Int32} (hx : x < 0 ∨ (¬ x < 0 ∧ nI 24 ≤ x)) (h : post 0) : wpX_isPixel post x y := by
  rcases hx with z | ⟨z, w⟩
  · exact br_t z h
  · exact br_f z (br_t w h)
theorem sh_dX1 (post : Int32 → Prop) {m p : Nat} (hm : m ≤ 6) (hp : p < m) (h : post 1) : wpX_isDrawn post (dp, A, B, C, nI m, aX, aY, pX, pY, pc, qA, qB, qC) (nI p) := br_f (nI_pos (by omega)) (br_f (nI_ge hp (by omega)) h)
theorem sh_dX0 (post : Int32 → Prop) {m : Nat} {x : Int32} (hx : x < 0 ∨ (¬ x < 0 ∧ nI m ≤ x)) (h : post 0) : wpX_isDrawn post (dp, A, B, C, nI m, aX, aY, pX, pY, pc, qA, qB, qC) x := by
  rcases hx with z | ⟨z, w⟩
  · exact br_t z h
  · exact br_f z (br_t w h)
theorem sh_mY0 (post : Int32 → Prop) {m p : Nat} (hm : m ≤ 6) (hp : p < m) (h : post 0) : wpY_missing post (dp, A, B, C, nI m, xs, ys, pc, qA, qB, qC) (nI p) := br_f (nI_pos (by omega)) (br_f (nI_ge hp (by omega)) (br_t (nI_lt (b := 6) (by omega) (by decide)) h))
theorem sh_mY1 (post : Int32 → Prop) {m : Nat} {x : Int32} (hx : x < 0 ∨ (¬ x < 0 ∧ nI m ≤ x)) (h : post 1) : wpY_missing post (dp, A, B, C, nI m, xs, ys, pc, qA, qB, qC) x := by
  rcases hx with z | ⟨z, w⟩
  · exact br_t z h
  · exact br_f z (br_t w h)
/-! spans -/
variable {f : Nat → Nat → Option Nat}
theorem sh_begY (hO : sh_O (dp, A, B, C, pg, aX, aY, pX, pY, pc, qA, qB, qC) (dp, A, B, C, pg, xs, ys, pc, qA, qB, qC) f) (post : Int32 → Prop) {i j : Nat} (hi : i + 1 < 24) (hj : j < 12) (h0 : f (i + 1) j = f i j → post 0) (h1 : ¬ f (i + 1) j = f i j → post 1) : wpY_begins post (dp, A, B, C, pg, xs, ys, pc, qA, qB, qC) (nI (i + 1)) (nI j) := by
  refine br_f (nI_ne0 (by omega) (by omega)) ((hO (i + 1) j hi hj).2.2 _ ?_)
  rw [nI_pred]
  exact (hO i j (by omega) hj).2.2 _ (sh_if (sh_yi (sh_Ok hO hi hj) (sh_Ok hO (by omega) hj)) h0 h1)
theorem sh_spL (hO : sh_O (dp, A, B, C, pg, aX, aY, pX, pY, pc, qA, qB, qC) (dp, A, B, C, pg, xs, ys, pc, qA, qB, qC) f) {j : Nat} (hj : j < 12) : ∀ d i : Nat, ∀ c : Int32, i + 1 + d = 24 → ∃ r : Int32,
    (∀ post : Int32 → Prop, post r → wX_spans_21 post (nI j) dp A B C pg aX aY pX pY pc qA qB qC (d + 1) c (sh_x (f i j)) (nI (i + 1))) ∧
    (∀ post : Int32 → Prop, post r → wY_spans_14 post (nI j) dp A B C pg xs ys pc qA qB qC (d + 1) c (nI (i + 1))) := by
  intro d
  induction d with
  | zero =>
    intro i c hi
    exact ⟨c, fun post h => br_t (nI_le (a := 24) (by omega) (by omega)) h, fun post h => br_t (nI_le (a := 24) (by omega) (by omega)) h⟩
  | succ d ih =>
    intro i c hi
    have x1 : ¬ (24 : Int32) ≤ nI (i + 1) := nI_ge (b := 24) (by omega) (by decide)
    have hi1 : i + 1 < 24 := by omega
    have E := sh_xi (sh_Ok hO hi1 hj) (sh_Ok hO (i := i) (by omega) hj)
    by_cases e : f (i + 1) j = f i j
    · obtain ⟨r, HX, HY⟩ := ih (i + 1) c (by omega)
      refine ⟨r, fun post h => br_f x1 ((hO (i + 1) j hi1 hj).2.1 _ (br_t (E.mpr e) (nm_r (nI_1 _) (HX post h)))), fun post h => br_f x1 (sh_begY hO _ hi1 hj (fun _ => br_t rfl (nm_r (nI_1 _) (HY post h))) (fun z => absurd e z))⟩
    · obtain ⟨r, HX, HY⟩ := ih (i + 1) (c + 1) (by omega)
      refine ⟨r, fun post h => br_f x1 ((hO (i + 1) j hi1 hj).2.1 _ (br_f (fun z => e (E.mp z)) (nm_e (nm_r (nI_1 _) (HX post h))))), fun post h => br_f x1 (sh_begY hO _ hi1 hj (fun z => absurd z e) (fun _ => br_f (by decide) (nm_e (nm_r (nI_1 _) (HY post h)))))⟩
theorem sh_sp (hO : sh_O (dp, A, B, C, pg, aX, aY, pX, pY, pc, qA, qB, qC) (dp, A, B, C, pg, xs, ys, pc, qA, qB, qC) f) {j : Nat} (hj : j < 12) : ∃ r : Int32, (∀ post : Int32 → Prop, post r → wpX_spans post (dp, A, B, C, pg, aX, aY, pX, pY, pc, qA, qB, qC) (nI j)) ∧ (∀ post : Int32 → Prop, post r → wpY_spans post (dp, A, B, C, pg, xs, ys, pc, qA, qB, qC) (nI j)) := by
  obtain ⟨r, HX, HY⟩ := sh_spL hO hj 23 0 1 rfl
  refine ⟨r, fun post h => ?_, fun post h => ?_⟩
  · unfold wpX_spans
    refine sh_rX1 _ hj ?_
    exact br_f (by decide) ((hO 0 j (by omega) hj).2.1 _ ⟨24, HX post h⟩)
  · unfold wpY_spans
    refine sh_rY0 _ hj ?_
    refine br_t rfl ⟨25, ?_⟩
    exact br_f (by decide) (br_t rfl (br_f (by decide) (nm_e (nm_e (HY post h)))))
/-! startOf -/
theorem sh_stL (hO : sh_O (dp, A, B, C, pg, aX, aY, pX, pY, pc, qA, qB, qC) (dp, A, B, C, pg, xs, ys, pc, qA, qB, qC) f) {j : Nat} {s : Int32} (hj : j < 12) : ∀ d i : Nat, ∀ t : Int32, i + 1 + d = 24 → ∃ r : Option Nat, (∀ q, r = some q → q < 24) ∧
    (∀ post : Int32 → Prop, post (sh_x r) → wX_startOf_19 post (nI j) s dp A B C pg aX aY pX pY pc qA qB qC (d + 1) t (sh_x (f i j)) (nI (i + 1))) ∧
    (∀ post : Int32 → Prop, post (sh_y r) → wY_startOf_5 post (nI j) s dp A B C pg xs ys pc qA qB qC (d + 1) (t + 1) (nI (i + 1))) := by
  intro d
  induction d with
  | zero =>
    intro i t hi
    exact ⟨none, fun q e => (nomatch e), fun post h => br_t (nI_le (a := 24) (by omega) (by omega)) h, fun post h => br_t (nI_le (a := 24) (by omega) (by omega)) h⟩
  | succ d ih =>
    intro i t hi
    have x1 : ¬ (24 : Int32) ≤ nI (i + 1) := nI_ge (b := 24) (by omega) (by decide)
    have hi1 : i + 1 < 24 := by omega
    have E := sh_xi (sh_Ok hO hi1 hj) (sh_Ok hO (i := i) (by omega) hj)
    by_cases e : f (i + 1) j = f i j
    · obtain ⟨r, hr, HX, HY⟩ := ih (i + 1) t (by omega)
      refine ⟨r, hr, fun post h => br_f x1 ((hO (i + 1) j hi1 hj).2.1 _ (br_t (E.mpr e) (nm_r (nI_1 _) (HX post h)))), fun post h => br_f x1 (sh_begY hO _ hi1 hj (fun _ => br_t rfl (nm_r (nI_1 _) (HY post h))) (fun z => absurd e z))⟩
    · by_cases es : t + 1 = s
      · refine ⟨some (i + 1), fun q e => by cases e; exact hi1, fun post h => br_f x1 ((hO (i + 1) j hi1 hj).2.1 _ (br_f (fun z => e (E.mp z)) (nm_e (br_t es h)))), fun post h => br_f x1 (sh_begY hO _ hi1 hj (fun z => absurd z e) (fun _ => br_f (by decide) (br_t es h)))⟩
      · obtain ⟨r, hr, HX, HY⟩ := ih (i + 1) (t + 1) (by omega)
        refine ⟨r, hr, fun post h => br_f x1 ((hO (i + 1) j hi1 hj).2.1 _ (br_f (fun z => e (E.mp z)) (nm_e (br_f es (nm_r (nI_1 _) (HX post h)))))), fun post h => br_f x1 (sh_begY hO _ hi1 hj (fun z => absurd z e) (fun _ => br_f (by decide) (br_f es (nm_e (nm_r (nI_1 _) (HY post h))))))⟩
theorem sh_st (hO : sh_O (dp, A, B, C, pg, aX, aY, pX, pY, pc, qA, qB, qC) (dp, A, B, C, pg, xs, ys, pc, qA, qB, qC) f) {j : Nat} (s : Int32) (hj : j < 12) : ∃ r : Option Nat, (∀ q, r = some q → q < 24) ∧ (∀ post : Int32 → Prop, post (sh_x r) → wpX_startOf post (dp, A, B, C, pg, aX, aY, pX, pY, pc, qA, qB, qC) (nI j) s) ∧ (∀ post : Int32 → Prop, post (sh_y r) → wpY_startOf post (dp, A, B, C, pg, xs, ys, pc, qA, qB, qC) (nI j) s) := by
  by_cases e : s = 0
  · subst e
    refine ⟨some 0, fun q e => by cases e; decide, fun post h => br_t rfl h, fun post h => ⟨1, ?_⟩⟩
    exact br_f (by decide) (br_t rfl (br_f (by decide) (br_t rfl h)))
  · obtain ⟨r, hr, HX, HY⟩ := sh_stL hO (s := s) hj 23 0 0 rfl
    refine ⟨r, hr, fun post h => ?_, fun post h => ⟨25, ?_⟩⟩
    · exact br_f e ((hO 0 j (by omega) hj).2.1 _ ⟨24, HX post h⟩)
    · exact br_f (by decide) (br_t rfl (br_f (by decide) (br_f (fun z => e z.symm) (nm_e (nm_e (HY post h))))))
end
end
section
/-! owned, covered, lit, seams: nested loops over the same function -/
section
variable {dp A B C pg : Int32} {aX aY pX pY pc qA qB qC xs ys : Nat → Int32} {f : Nat → Nat → Option Nat}
theorem sh_owI (hO : sh_O (dp, A, B, C, pg, aX, aY, pX, pY, pc, qA, qB, qC) (dp, A, B, C, pg, xs, ys, pc, qA, qB, qC) f) {p j : Nat} (hp : p < 6) (hj : j < 12) : ∀ d i : Nat, ∀ c : Int32, i + d = 24 → ∃ r : Int32,
    (∀ (post : Int32 → Prop) (J : Int32 → Int32 → Prop), J r (nI (j + 1)) → wX_owned_23 post J (nI p) (nI j) dp A B C pg aX aY pX pY pc qA qB qC (d + 1) c (nI i)) ∧
    (∀ (post : Int32 → Prop) (J : Int32 → Int32 → Prop), J r (nI (j + 1)) → wY_owned_23 post J (nI p) (nI j) dp A B C pg xs ys pc qA qB qC (d + 1) c (nI i)) := by
  intro d
  induction d with
  | zero =>
    intro i c hi
    exact ⟨c, fun post J h => br_t (nI_le (a := 24) (by omega) (by omega)) (nm_r (nI_1 _) h), fun post J h => br_t (nI_le (a := 24) (by omega) (by omega)) (nm_r (nI_1 _) h)⟩
  | succ d ih =>
    intro i c hi
    have x1 : ¬ (24 : Int32) ≤ nI i := nI_ge (b := 24) (by omega) (by decide)
    have hi1 : i < 24 := by omega
    have EX := sh_xs (p := p) (sh_Ok hO hi1 hj) (by omega)
    have EY := sh_ys (p := p) (sh_Ok hO hi1 hj) (by omega)
    by_cases e : f i j = some p
    · obtain ⟨r, HX, HY⟩ := ih (i + 1) (c + 1) (by omega)
      exact ⟨r, fun post J h => br_f x1 ((hO i j hi1 hj).2.1 _ (br_t (EX.mpr e) (nm_e (nm_r (nI_1 _) (HX post J h))))), fun post J h => br_f x1 ((hO i j hi1 hj).2.2 _ (br_t (EY.mpr e) (nm_e (nm_r (nI_1 _) (HY post J h)))))⟩
    · obtain ⟨r, HX, HY⟩ := ih (i + 1) c (by omega)
      exact ⟨r, fun post J h => br_f x1 ((hO i j hi1 hj).2.1 _ (br_f (fun z => e (EX.mp z)) (nm_r (nI_1 _) (HX post J h)))), fun post J h => br_f x1 ((hO i j hi1 hj).2.2 _ (br_f (fun z => e (EY.mp z)) (nm_r (nI_1 _) (HY post J h))))⟩
theorem sh_owO (hO : sh_O (dp, A, B, C, pg, aX, aY, pX, pY, pc, qA, qB, qC) (dp, A, B, C, pg, xs, ys, pc, qA, qB, qC) f) {p : Nat} (hp : p < 6) : ∀ d j : Nat, ∀ c : Int32, j + d = 12 → ∃ r : Int32,
    (∀ post : Int32 → Prop, post r → wX_owned_14 post (nI p) dp A B C pg aX aY pX pY pc qA qB qC (d + 1) c (nI j)) ∧
    (∀ post : Int32 → Prop, post r → wY_owned_14 post (nI p) dp A B C pg xs ys pc qA qB qC (d + 1) c (nI j)) := by
  intro d
  induction d with
  | zero =>
    intro j c hj
    exact ⟨c, fun post h => br_t (nI_le (a := 12) (by omega) (by omega)) h, fun post h => br_t (nI_le (a := 12) (by omega) (by omega)) h⟩
  | succ d ih =>
    intro j c hj
    have x1 : ¬ (12 : Int32) ≤ nI j := nI_ge (b := 12) (by omega) (by decide)
    obtain ⟨c', IX, IY⟩ := sh_owI hO hp (j := j) (by omega) 24 0 c rfl
    obtain ⟨r, HX, HY⟩ := ih (j + 1) c' (by omega)
    exact ⟨r, fun post h => br_f x1 ⟨25, IX post _ (HX post h)⟩, fun post h => br_f x1 ⟨25, IY post _ (HY post h)⟩⟩
theorem sh_cvI {p j : Nat} (hP : sh_Poly pX pY xs ys pc p) (hp : p < 6) (hj : j < 12) : ∀ d i : Nat, ∀ c : Int32, i + d = 24 → ∃ r : Int32,
    (∀ (post : Int32 → Prop) (J : Int32 → Int32 → Prop), J r (nI (j + 1)) → wX_covered_23 post J (nI p) (nI j) dp A B C pg aX aY pX pY pc qA qB qC (d + 1) c (nI i)) ∧
    (∀ (post : Int32 → Prop) (J : Int32 → Int32 → Prop), J r (nI (j + 1)) → wY_covered_23 post J (nI p) (nI j) dp A B C pg xs ys pc qA qB qC (d + 1) c (nI i)) := by
  intro d
  induction d with
  | zero =>
    intro i c hi
    exact ⟨c, fun post J h => br_t (nI_le (a := 24) (by omega) (by omega)) (nm_r (nI_1 _) h), fun post J h => br_t (nI_le (a := 24) (by omega) (by omega)) (nm_r (nI_1 _) h)⟩
  | succ d ih =>
    intro i c hi
    have x1 : ¬ (24 : Int32) ≤ nI i := nI_ge (b := 24) (by omega) (by decide)
    obtain ⟨b, hb, CX, CY⟩ := sh_cov dp A B C pg aX aY pX pY pc qA qB qC xs ys hp (i := i) (by omega) hj hP
    by_cases e : b = 0
    · obtain ⟨r, HX, HY⟩ := ih (i + 1) c (by omega)
      exact ⟨r, fun post J h => br_f x1 (CX _ (br_t e (nm_r (nI_1 _) (HX post J h)))), fun post J h => br_f x1 (CY _ (br_t e (nm_r (nI_1 _) (HY post J h))))⟩
    · obtain ⟨r, HX, HY⟩ := ih (i + 1) (c + 1) (by omega)
      exact ⟨r, fun post J h => br_f x1 (CX _ (br_f e (nm_e (nm_r (nI_1 _) (HX post J h))))), fun post J h => br_f x1 (CY _ (br_f e (nm_e (nm_r (nI_1 _) (HY post J h)))))⟩
theorem sh_cvO {p : Nat} (hP : sh_Poly pX pY xs ys pc p) (hp : p < 6) : ∀ d j : Nat, ∀ c : Int32, j + d = 12 → ∃ r : Int32,
    (∀ post : Int32 → Prop, post r → wX_covered_14 post (nI p) dp A B C pg aX aY pX pY pc qA qB qC (d + 1) c (nI j)) ∧
    (∀ post : Int32 → Prop, post r → wY_covered_14 post (nI p) dp A B C pg xs ys pc qA qB qC (d + 1) c (nI j)) := by
  intro d
  induction d with
  | zero =>
    intro j c hj
    exact ⟨c, fun post h => br_t (nI_le (a := 12) (by omega) (by omega)) h, fun post h => br_t (nI_le (a := 12) (by omega) (by omega)) h⟩
  | succ d ih =>
    intro j c hj
    have x1 : ¬ (12 : Int32) ≤ nI j := nI_ge (b := 12) (by omega) (by decide)
    obtain ⟨c', IX, IY⟩ := sh_cvI (dp := dp) (A := A) (B := B) (C := C) (pg := pg) (aX := aX) (aY := aY) (qA := qA) (qB := qB) (qC := qC) hP hp (j := j) (by omega) 24 0 c rfl
    obtain ⟨r, HX, HY⟩ := ih (j + 1) c' (by omega)
    exact ⟨r, fun post h => br_f x1 ⟨25, IX post _ (HX post h)⟩, fun post h => br_f x1 ⟨25, IY post _ (HY post h)⟩⟩
theorem sh_liI (hO : sh_O (dp, A, B, C, pg, aX, aY, pX, pY, pc, qA, qB, qC) (dp, A, B, C, pg, xs, ys, pc, qA, qB, qC) f) {j : Nat} (hj : j < 12) : ∀ d i : Nat, ∀ c : Int32, i + d = 24 → ∃ r : Int32,
    (∀ (post : Int32 → Prop) (J : Int32 → Int32 → Prop), J r (nI (j + 1)) → wX_lit_12 post J (nI j) dp A B C pg aX aY pX pY pc qA qB qC (d + 1) c (nI i)) ∧
    (∀ (post : Int32 → Prop) (J : Int32 → Int32 → Prop), J r (nI (j + 1)) → wY_lit_12 post J (nI j) dp A B C pg xs ys pc qA qB qC (d + 1) c (nI i)) := by
  intro d
  induction d with
  | zero =>
    intro i c hi
    exact ⟨c, fun post J h => br_t (nI_le (a := 24) (by omega) (by omega)) (nm_r (nI_1 _) h), fun post J h => br_t (nI_le (a := 24) (by omega) (by omega)) (nm_r (nI_1 _) h)⟩
  | succ d ih =>
    intro i c hi
    have x1 : ¬ (24 : Int32) ≤ nI i := nI_ge (b := 24) (by omega) (by decide)
    have hi1 : i < 24 := by omega
    have EX := sh_xn (sh_Ok hO hi1 hj)
    have EY := sh_yl (sh_Ok hO hi1 hj)
    by_cases e : f i j = none
    · obtain ⟨r, HX, HY⟩ := ih (i + 1) c (by omega)
      exact ⟨r, fun post J h => br_f x1 ((hO i j hi1 hj).2.1 _ (br_t (EX.mpr e) (nm_r (nI_1 _) (HX post J h)))), fun post J h => br_f x1 ((hO i j hi1 hj).2.2 _ (br_t (EY.mpr e) (nm_r (nI_1 _) (HY post J h))))⟩
    · obtain ⟨r, HX, HY⟩ := ih (i + 1) (c + 1) (by omega)
      exact ⟨r, fun post J h => br_f x1 ((hO i j hi1 hj).2.1 _ (br_f (fun z => e (EX.mp z)) (nm_e (nm_r (nI_1 _) (HX post J h))))), fun post J h => br_f x1 ((hO i j hi1 hj).2.2 _ (br_f (fun z => e (EY.mp z)) (nm_e (nm_r (nI_1 _) (HY post J h)))))⟩
theorem sh_liO (hO : sh_O (dp, A, B, C, pg, aX, aY, pX, pY, pc, qA, qB, qC) (dp, A, B, C, pg, xs, ys, pc, qA, qB, qC) f) : ∀ d j : Nat, ∀ c : Int32, j + d = 12 → ∃ r : Int32,
    (∀ post : Int32 → Prop, post r → wX_lit_4 post dp A B C pg aX aY pX pY pc qA qB qC (d + 1) c (nI j)) ∧
    (∀ post : Int32 → Prop, post r → wY_lit_4 post dp A B C pg xs ys pc qA qB qC (d + 1) c (nI j)) := by
  intro d
  induction d with
  | zero =>
    intro j c hj
    exact ⟨c, fun post h => br_t (nI_le (a := 12) (by omega) (by omega)) h, fun post h => br_t (nI_le (a := 12) (by omega) (by omega)) h⟩
  | succ d ih =>
    intro j c hj
    have x1 : ¬ (12 : Int32) ≤ nI j := nI_ge (b := 12) (by omega) (by decide)
    obtain ⟨c', IX, IY⟩ := sh_liI hO (j := j) (by omega) 24 0 c rfl
    obtain ⟨r, HX, HY⟩ := ih (j + 1) c' (by omega)
    exact ⟨r, fun post h => br_f x1 ⟨25, IX post _ (HX post h)⟩, fun post h => br_f x1 ⟨25, IY post _ (HY post h)⟩⟩
theorem sh_seI (hO : sh_O (dp, A, B, C, pg, aX, aY, pX, pY, pc, qA, qB, qC) (dp, A, B, C, pg, xs, ys, pc, qA, qB, qC) f) {j : Nat} (hj : j < 12) : ∀ d i : Nat, ∀ c : Int32, i + 1 + d = 24 → ∃ r : Int32,
    (∀ (post : Int32 → Prop) (J : Int32 → Int32 → Prop), J r (nI (j + 1)) → wX_seams_20 post J (nI j) dp A B C pg aX aY pX pY pc qA qB qC (d + 1) c (sh_x (f i j)) (nI (i + 1))) ∧
    (∀ (post : Int32 → Prop) (J : Int32 → Int32 → Prop), J r (nI (j + 1)) → wY_seams_12 post J (nI j) dp A B C pg xs ys pc qA qB qC (d + 1) c (nI (i + 1))) := by
  intro d
  induction d with
  | zero =>
    intro i c hi
    exact ⟨c, fun post J h => br_t (nI_le (a := 24) (by omega) (by omega)) (nm_r (nI_1 _) h), fun post J h => br_t (nI_le (a := 24) (by omega) (by omega)) (nm_r (nI_1 _) h)⟩
  | succ d ih =>
    intro i c hi
    have x1 : ¬ (24 : Int32) ≤ nI (i + 1) := nI_ge (b := 24) (by omega) (by decide)
    have hi1 : i + 1 < 24 := by omega
    have hi0 : i < 24 := by omega
    have k1 := sh_Ok hO hi1 hj
    have k0 := sh_Ok hO hi0 hj
    have E := sh_xi k1 k0
    have F := sh_yi k1 k0
    by_cases e : ¬ f i j = none ∧ ¬ f (i + 1) j = none ∧ ¬ f (i + 1) j = f i j
    · obtain ⟨r, HX, HY⟩ := ih (i + 1) (c + 1) (by omega)
      refine ⟨r, fun post J h => br_f x1 ((hO (i + 1) j hi1 hj).2.1 _ ?_), fun post J h => br_f x1 ((hO (i + 1) j hi1 hj).2.2 _ ?_)⟩
      · exact br_f (fun z => e.1 ((sh_xn k0).mp z)) (br_f (fun z => e.2.1 ((sh_xn k1).mp z)) (br_f (fun z => e.2.2 (E.mp z)) (nm_e (nm_r (nI_1 _) (HX post J h)))))
      · rw [nI_pred]
        exact (hO i j hi0 hj).2.2 _ (br_f (fun z => e.2.1 ((sh_yl k1).mp z)) (br_f (fun z => e.1 ((sh_yl k0).mp z)) (br_f (fun z => e.2.2 (F.mp z)) (nm_e (nm_r (nI_1 _) (HY post J h))))))
    · obtain ⟨r, HX, HY⟩ := ih (i + 1) c (by omega)
      refine ⟨r, fun post J h => br_f x1 ((hO (i + 1) j hi1 hj).2.1 _ ?_), fun post J h => br_f x1 ((hO (i + 1) j hi1 hj).2.2 _ ?_)⟩
      · exact sh_if (sh_xn k0) (fun _ => nm_r (nI_1 _) (HX post J h)) (fun a => sh_if (sh_xn k1) (fun _ => nm_r (nI_1 _) (HX post J h)) (fun b => sh_if E (fun _ => nm_r (nI_1 _) (HX post J h)) (fun g => absurd ⟨a, b, g⟩ e)))
      · rw [nI_pred]
        exact (hO i j hi0 hj).2.2 _ (sh_if (sh_yl k1) (fun _ => nm_r (nI_1 _) (HY post J h)) (fun b => sh_if (sh_yl k0) (fun _ => nm_r (nI_1 _) (HY post J h)) (fun a => sh_if F (fun _ => nm_r (nI_1 _) (HY post J h)) (fun g => absurd ⟨a, b, g⟩ e))))
theorem sh_seO (hO : sh_O (dp, A, B, C, pg, aX, aY, pX, pY, pc, qA, qB, qC) (dp, A, B, C, pg, xs, ys, pc, qA, qB, qC) f) : ∀ d j : Nat, ∀ c : Int32, j + d = 12 → ∃ r : Int32,
    (∀ post : Int32 → Prop, post r → wX_seams_4 post dp A B C pg aX aY pX pY pc qA qB qC (d + 1) c (nI j)) ∧
    (∀ post : Int32 → Prop, post r → wY_seams_4 post dp A B C pg xs ys pc qA qB qC (d + 1) c (nI j)) := by
  intro d
  induction d with
  | zero =>
    intro j c hj
    exact ⟨c, fun post h => br_t (nI_le (a := 12) (by omega) (by omega)) h, fun post h => br_t (nI_le (a := 12) (by omega) (by omega)) h⟩
  | succ d ih =>
    intro j c hj
    have x1 : ¬ (12 : Int32) ≤ nI j := nI_ge (b := 12) (by omega) (by decide)
    obtain ⟨c', IX, IY⟩ := sh_seI hO (j := j) (by omega) 23 0 c rfl
    obtain ⟨r, HX, HY⟩ := ih (j + 1) c' (by omega)
    exact ⟨r, fun post h => br_f x1 ((hO 0 j (by omega) (by omega)).2.1 _ ⟨24, IX post _ (HX post h)⟩), fun post h => br_f x1 ⟨24, IY post _ (HY post h)⟩⟩
end
end
section
/-! draw, copying from the next polygon, remove -/
section
variable {dp A B C pg : Int32} {aX aY pX pY pc qA qB qC xs ys : Nat → Int32}
theorem sh_tdX (post : SX → Prop) {p : Nat} (hp : p < 6) (h : post (dp, A, B, C, pg, aX, aY, pX, pY, pc, upd qA p A, upd qB p B, upd qC p C)) : wpX_takeDraftPlane post (dp, A, B, C, pg, aX, aY, pX, pY, pc, qA, qB, qC) (nI p) := by
  have hi : vp_in (nI p) 6 := vp_in_nI hp (by decide)
  have hc : (nI p).toNatClampNeg = p := nI_clamp (by omega)
  exact ⟨hi, nm_r (e' := upd qA p A) (by rw [hc]) ⟨hi, nm_r (e' := upd qB p B) (by rw [hc]) ⟨hi, nm_r (e' := upd qC p C) (by rw [hc]) h⟩⟩⟩
theorem sh_tdY (post : SY → Prop) {p : Nat} (hp : p < 6) (h : post (dp, A, B, C, pg, xs, ys, pc, upd qA p A, upd qB p B, upd qC p C)) : wpY_give post (dp, A, B, C, pg, xs, ys, pc, qA, qB, qC) (nI p) := by
  have hi : vp_in (nI p) 6 := vp_in_nI hp (by decide)
  have hc : (nI p).toNatClampNeg = p := nI_clamp (by omega)
  exact ⟨hi, nm_r (e' := upd qA p A) (by rw [hc]) ⟨hi, nm_r (e' := upd qB p B) (by rw [hc]) ⟨hi, nm_r (e' := upd qC p C) (by rw [hc]) h⟩⟩⟩
theorem sh_drX (post : Int32 → SX → Prop) {n m : Nat} (hn : n ≤ 8) (hm : m < 6)
    (h : post (nI m) (nI n, A, B, C, nI (m + 1), aX, aY, sh_ov pX (fun j => aX (j - 8 * m)) (8 * m) n, sh_ov pY (fun j => aY (j - 8 * m)) (8 * m) n, upd pc m (nI n), upd qA m A, upd qB m B, upd qC m C)) :
    ∀ d k : Nat, k + d = n → wX_draw_34 post (nI m) (nI (8 * m)) (nI n) A B C (nI m) (d + 1) (nI k) aX aY (sh_ov pX (fun j => aX (j - 8 * m)) (8 * m) k) (sh_ov pY (fun j => aY (j - 8 * m)) (8 * m) k) pc qA qB qC := by
  intro d
  induction d with
  | zero =>
    intro k hk
    have e : k = n := by omega
    subst e
    refine br_t (nI_le (by omega) (by omega)) ⟨vp_in_nI hm (by decide), nm_r (e' := upd pc m (nI k)) (by rw [nI_clamp (by omega)]) ?_⟩
    exact sh_tdX _ hm (nm_r (nI_1 m) h)
  | succ d ih =>
    intro k hk
    have i1 : vp_in (nI k) 8 := vp_in_nI (by omega) (by decide)
    have i2 : vp_in (nI (8 * m) + nI k) 48 := by rw [nI_add]; exact vp_in_nI (by omega) (by decide)
    have c1 : (nI k).toNatClampNeg = k := nI_clamp (by omega)
    have c2 : (nI (8 * m) + nI k).toNatClampNeg = 8 * m + k := by rw [nI_add]; exact nI_clamp (by omega)
    refine br_f (nI_ge (by omega) (by omega)) ⟨i1, i2, nm_r (e' := sh_ov pX (fun j => aX (j - 8 * m)) (8 * m) (k + 1)) ?_ ⟨i1, i2, nm_r (e' := sh_ov pY (fun j => aY (j - 8 * m)) (8 * m) (k + 1)) ?_ (nm_r (nI_1 k) (ih (k + 1) (by omega)))⟩⟩
    · rw [c1, c2]
      exact sh_ov_s (by show aX k = aX (8 * m + k - 8 * m); rw [Nat.add_sub_cancel_left])
    · rw [c1, c2]
      exact sh_ov_s (by show aY k = aY (8 * m + k - 8 * m); rw [Nat.add_sub_cancel_left])
theorem sh_drY (post : Int32 → SY → Prop) {n m : Nat} (hm : m < 6)
    (h : post (nI m) (nI n, A, B, C, nI (m + 1), sh_ov xs (fun j => xs (48 + (j - 8 * m))) (8 * m) 8, sh_ov ys (fun j => ys (48 + (j - 8 * m))) (8 * m) 8, upd pc m (nI n), upd qA m A, upd qB m B, upd qC m C)) :
    ∀ d k : Nat, k + d = 8 → wY_draw_26 post (nI m) (nI n) A B C (nI m) (d + 1) (nI k) (sh_ov xs (fun j => xs (48 + (j - 8 * m))) (8 * m) k) (sh_ov ys (fun j => ys (48 + (j - 8 * m))) (8 * m) k) pc qA qB qC := by
  intro d
  induction d with
  | zero =>
    intro k hk
    have e : k = 8 := by omega
    subst e
    refine br_t (by decide) ⟨vp_in_nI hm (by decide), nm_r (e' := upd pc m (nI n)) (by rw [nI_clamp (by omega)]) ?_⟩
    exact sh_tdY _ hm (nm_r (nI_1 m) h)
  | succ d ih =>
    intro k hk
    have w1 : 48 + nI k = nI (48 + k) := nI_add 48 k
    have w2 : 8 * nI m + nI k = nI (8 * m + k) := by
      have e : 8 * nI m = nI (8 * m) := pk_mul 8 m
      rw [e, nI_add]
    have i1 : vp_in (48 + nI k) 56 := by rw [w1]; exact vp_in_nI (by omega) (by decide)
    have i2 : vp_in (8 * nI m + nI k) 56 := by rw [w2]; exact vp_in_nI (by omega) (by decide)
    have c1 : (48 + nI k).toNatClampNeg = 48 + k := by rw [w1]; exact nI_clamp (by omega)
    have c2 : (8 * nI m + nI k).toNatClampNeg = 8 * m + k := by rw [w2]; exact nI_clamp (by omega)
    refine br_f (nI_ge (b := 8) (by omega) (by omega)) ⟨i1, i2, nm_r (e' := sh_ov xs (fun j => xs (48 + (j - 8 * m))) (8 * m) (k + 1)) ?_ ⟨i1, i2, nm_r (e' := sh_ov ys (fun j => ys (48 + (j - 8 * m))) (8 * m) (k + 1)) ?_ (nm_r (nI_1 k) (ih (k + 1) (by omega)))⟩⟩
    · rw [c1, c2]
      exact sh_ov_s (by rw [sh_ov_out (by omega)]; show xs (48 + k) = xs (48 + (8 * m + k - 8 * m)); rw [Nat.add_sub_cancel_left])
    · rw [c1, c2]
      exact sh_ov_s (by rw [sh_ov_out (by omega)]; show ys (48 + k) = ys (48 + (8 * m + k - 8 * m)); rw [Nat.add_sub_cancel_left])
/-! what is kept of the relation when the overlays lie in one polygon's cells -/
theorem sh_DrK {n p c : Nat} {Gx Gy : Nat → Int32} (hp : p < 6) (hc : c ≤ 8) (h : sh_Dr n aX aY xs ys) : sh_Dr n aX aY (sh_ov xs Gx (8 * p) c) (sh_ov ys Gy (8 * p) c) := by
  intro k hk
  have z := h k hk
  rw [sh_ov_out (by omega), sh_ov_out (by omega)]
  exact z
theorem sh_PolyK {p t c c' : Nat} {Gx Gy Hx Hy : Nat → Int32} {x : Int32} (ht : t ≠ p) (hc : c ≤ 8) (hc' : c' ≤ 8) (h : sh_Poly pX pY xs ys pc t) :
    sh_Poly (sh_ov pX Gx (8 * p) c) (sh_ov pY Gy (8 * p) c) (sh_ov xs Hx (8 * p) c') (sh_ov ys Hy (8 * p) c') (upd pc p x) t := by
  obtain ⟨e, h1, h2, h3, h4⟩ := h
  refine ⟨e, h1, h2, by rw [pk_un ht]; exact h3, fun k hk => ?_⟩
  have z := h4 k hk
  rw [sh_ov_out (by omega), sh_ov_out (by omega), sh_ov_out (by omega), sh_ov_out (by omega)]
  exact z
theorem sh_AllD {n m : Nat} (h3 : 3 ≤ n) (h8 : n ≤ 8) (hm : m < 6) (hD : sh_Dr n aX aY xs ys) (hA : sh_All m pX pY xs ys pc) :
    sh_All (m + 1) (sh_ov pX (fun j => aX (j - 8 * m)) (8 * m) n) (sh_ov pY (fun j => aY (j - 8 * m)) (8 * m) n) (sh_ov xs (fun j => xs (48 + (j - 8 * m))) (8 * m) 8) (sh_ov ys (fun j => ys (48 + (j - 8 * m))) (8 * m) 8) (upd pc m (nI n)) := by
  intro t ht
  by_cases e : t = m
  · subst e
    refine ⟨n, h3, h8, pk_us, fun k hk => ?_⟩
    have z := hD k hk
    rw [sh_ov_in (by omega) (by omega), sh_ov_in (by omega) (by omega), sh_ov_in (by omega) (by omega), sh_ov_in (by omega) (by omega)]
    show sh_Pt (aX (8 * t + k - 8 * t)) (aY (8 * t + k - 8 * t)) (xs (48 + (8 * t + k - 8 * t))) (ys (48 + (8 * t + k - 8 * t)))
    rw [Nat.add_sub_cancel_left]
    exact z
  · exact sh_PolyK e h8 (by omega) (hA t (by omega))
/-! copying polygon p + 1 to p -/
theorem sh_cpX (post : SX → Prop) {p c : Nat} (hp : p + 1 < 6) (hc : c ≤ 8) (hn : pc (p + 1) = nI c)
    (h : post (dp, A, B, C, pg, aX, aY, sh_ov pX (fun j => pX (j + 8)) (8 * p) c, sh_ov pY (fun j => pY (j + 8)) (8 * p) c, upd pc p (pc (p + 1)), upd qA p (qA (p + 1)), upd qB p (qB (p + 1)), upd qC p (qC (p + 1)))) :
    ∀ d k : Nat, k + d = c → wX_copyFromNext_18 post (nI p) (nI (p + 1)) (nI (8 * p)) (nI (8 * (p + 1))) dp A B C pg (d + 1) (nI k) aX aY (sh_ov pX (fun j => pX (j + 8)) (8 * p) k) (sh_ov pY (fun j => pY (j + 8)) (8 * p) k) pc qA qB qC := by
  have j1 : vp_in (nI p) 6 := vp_in_nI (by omega) (by decide)
  have j2 : vp_in (nI (p + 1)) 6 := vp_in_nI hp (by decide)
  have d1 : (nI p).toNatClampNeg = p := nI_clamp (by omega)
  have d2 : (nI (p + 1)).toNatClampNeg = p + 1 := nI_clamp (by omega)
  intro d
  induction d with
  | zero =>
    intro k hk
    have e : k = c := by omega
    subst e
    refine ⟨j2, br_t (by rw [d2, hn]; exact nI_le (by omega) (by omega)) ⟨j2, j1, nm_r (e' := upd pc p (pc (p + 1))) (by rw [d1, d2]) ⟨j2, j1, nm_r (e' := upd qA p (qA (p + 1))) (by rw [d1, d2]) ⟨j2, j1, nm_r (e' := upd qB p (qB (p + 1))) (by rw [d1, d2]) ⟨j2, j1, nm_r (e' := upd qC p (qC (p + 1))) (by rw [d1, d2]) h⟩⟩⟩⟩⟩
  | succ d ih =>
    intro k hk
    have i1 : vp_in (nI (8 * (p + 1)) + nI k) 48 := by rw [nI_add]; exact vp_in_nI (by omega) (by decide)
    have i2 : vp_in (nI (8 * p) + nI k) 48 := by rw [nI_add]; exact vp_in_nI (by omega) (by decide)
    have c1 : (nI (8 * (p + 1)) + nI k).toNatClampNeg = 8 * p + k + 8 := by rw [nI_add, nI_clamp (by omega)]; omega
    have c2 : (nI (8 * p) + nI k).toNatClampNeg = 8 * p + k := by rw [nI_add]; exact nI_clamp (by omega)
    refine ⟨j2, br_f (by rw [d2, hn]; exact nI_ge (by omega) (by omega)) ⟨i1, i2, nm_r (e' := sh_ov pX (fun j => pX (j + 8)) (8 * p) (k + 1)) ?_ ⟨i1, i2, nm_r (e' := sh_ov pY (fun j => pY (j + 8)) (8 * p) (k + 1)) ?_ (nm_r (nI_1 k) (ih (k + 1) (by omega)))⟩⟩⟩
    · rw [c1, c2]
      exact sh_ov_s (by rw [sh_ov_out (by omega)])
    · rw [c1, c2]
      exact sh_ov_s (by rw [sh_ov_out (by omega)])
theorem sh_cpX' (post : SX → Prop) {p c : Nat} (hp : p + 1 < 6) (hc : c ≤ 8) (hn : pc (p + 1) = nI c)
    (h : post (dp, A, B, C, pg, aX, aY, sh_ov pX (fun j => pX (j + 8)) (8 * p) c, sh_ov pY (fun j => pY (j + 8)) (8 * p) c, upd pc p (pc (p + 1)), upd qA p (qA (p + 1)), upd qB p (qB (p + 1)), upd qC p (qC (p + 1)))) :
    wpX_copyFromNext post (dp, A, B, C, pg, aX, aY, pX, pY, pc, qA, qB, qC) (nI p) := by
  have L := sh_cpX post hp hc hn h c 0 (by omega)
  rw [sh_ov_0, sh_ov_0] at L
  exact nm_r (nI_1 p) (nm_r (e' := nI (8 * p)) (by rw [Nat.mul_comm]; exact pk_mul p 8) (nm_r (e' := nI (8 * (p + 1))) (by rw [Nat.mul_comm]; exact pk_mul (p + 1) 8) ⟨c + 1, L⟩))
theorem sh_cpY (post : Int32 → SY → Prop) (J : Int32 → (Nat → Int32) → (Nat → Int32) → (Nat → Int32) → (Nat → Int32) → (Nat → Int32) → (Nat → Int32) → Prop) {p : Nat} (hp : p + 1 < 6)
    (h : J (nI (p + 1)) (sh_ov xs (fun j => xs (j + 8)) (8 * p) 8) (sh_ov ys (fun j => ys (j + 8)) (8 * p) 8) (upd pc p (pc (p + 1))) (upd qA p (qA (p + 1))) (upd qB p (qB (p + 1))) (upd qC p (qC (p + 1)))) :
    ∀ d k : Nat, k + d = 8 → wY_remove_29 post J (nI p) dp A B C pg (d + 1) (nI k) (sh_ov xs (fun j => xs (j + 8)) (8 * p) k) (sh_ov ys (fun j => ys (j + 8)) (8 * p) k) pc qA qB qC := by
  have j1 : vp_in (nI p) 6 := vp_in_nI (by omega) (by decide)
  have j2 : vp_in (nI p + 1) 6 := by rw [nI_1]; exact vp_in_nI hp (by decide)
  have d1 : (nI p).toNatClampNeg = p := nI_clamp (by omega)
  have d2 : (nI p + 1).toNatClampNeg = p + 1 := by rw [nI_1]; exact nI_clamp (by omega)
  intro d
  induction d with
  | zero =>
    intro k hk
    have e : k = 8 := by omega
    subst e
    refine br_t (by decide) ⟨j2, j1, nm_r (e' := upd pc p (pc (p + 1))) (by rw [d1, d2]) ⟨j2, j1, nm_r (e' := upd qA p (qA (p + 1))) (by rw [d1, d2]) ⟨j2, j1, nm_r (e' := upd qB p (qB (p + 1))) (by rw [d1, d2]) ⟨j2, j1, nm_r (e' := upd qC p (qC (p + 1))) (by rw [d1, d2]) (nm_r (nI_1 p) h)⟩⟩⟩⟩
  | succ d ih =>
    intro k hk
    have w1 : 8 * (nI p + 1) + nI k = nI (8 * p + k + 8) := by
      have e : 8 * nI (p + 1) = nI (8 * (p + 1)) := pk_mul 8 (p + 1)
      rw [nI_1, e, nI_add]
      exact congrArg nI (by omega)
    have w2 : 8 * nI p + nI k = nI (8 * p + k) := by
      have e : 8 * nI p = nI (8 * p) := pk_mul 8 p
      rw [e, nI_add]
    have i1 : vp_in (8 * (nI p + 1) + nI k) 56 := by rw [w1]; exact vp_in_nI (by omega) (by decide)
    have i2 : vp_in (8 * nI p + nI k) 56 := by rw [w2]; exact vp_in_nI (by omega) (by decide)
    have c1 : (8 * (nI p + 1) + nI k).toNatClampNeg = 8 * p + k + 8 := by rw [w1]; exact nI_clamp (by omega)
    have c2 : (8 * nI p + nI k).toNatClampNeg = 8 * p + k := by rw [w2]; exact nI_clamp (by omega)
    refine br_f (nI_ge (b := 8) (by omega) (by decide)) ⟨i1, i2, nm_r (e' := sh_ov xs (fun j => xs (j + 8)) (8 * p) (k + 1)) ?_ ⟨i1, i2, nm_r (e' := sh_ov ys (fun j => ys (j + 8)) (8 * p) (k + 1)) ?_ (nm_r (nI_1 k) (ih (k + 1) (by omega)))⟩⟩
    · rw [c1, c2]
      exact sh_ov_s (by rw [sh_ov_out (by omega)])
    · rw [c1, c2]
      exact sh_ov_s (by rw [sh_ov_out (by omega)])
theorem sh_AllC {m p c : Nat} (hp : p + 1 < m) (hm : m ≤ 6) (hn : pc (p + 1) = nI c) (hc : c ≤ 8) (hA : sh_All m pX pY xs ys pc) :
    sh_All m (sh_ov pX (fun j => pX (j + 8)) (8 * p) c) (sh_ov pY (fun j => pY (j + 8)) (8 * p) c) (sh_ov xs (fun j => xs (j + 8)) (8 * p) 8) (sh_ov ys (fun j => ys (j + 8)) (8 * p) 8) (upd pc p (pc (p + 1))) := by
  intro t ht
  by_cases e : t = p
  · subst e
    obtain ⟨e, h1, h2, h3, h4⟩ := hA (t + 1) hp
    have ec : e = c := (nI_eq (by omega) (by omega)).mp (h3.symm.trans hn)
    subst ec
    refine ⟨e, h1, h2, by rw [pk_us]; exact h3, fun k hk => ?_⟩
    have z := h4 k hk
    rw [sh_ov_in (by omega) (by omega), sh_ov_in (by omega) (by omega), sh_ov_in (by omega) (by omega), sh_ov_in (by omega) (by omega)]
    have q : 8 * (t + 1) + k = 8 * t + k + 8 := by omega
    rw [q] at z
    exact z
  · exact sh_PolyK e hc (by omega) (hA t ht)
end
theorem sh_rmL {dp A B C : Int32} {aX aY : Nat → Int32} {n m : Nat} (hm : m ≤ 6) : ∀ d p : Nat, ∀ pX pY pc qA qB qC xs ys : Nat → Int32, p + 1 + d = m → sh_All m pX pY xs ys pc → sh_Dr n aX aY xs ys →
    ∃ pX' pY' pc' qA' qB' qC' xs' ys' : Nat → Int32, sh_All m pX' pY' xs' ys' pc' ∧ sh_Dr n aX aY xs' ys' ∧
    (∀ post : Int32 → SX → Prop, post (nI (m - 1)) (dp, A, B, C, nI (m - 1), aX, aY, pX', pY', pc', qA', qB', qC') → wX_remove_12 post (d + 1) (nI p) dp A B C (nI m) aX aY pX pY pc qA qB qC) ∧
    (∀ post : Int32 → SY → Prop, post (nI (m - 1)) (dp, A, B, C, nI (m - 1), xs', ys', pc', qA', qB', qC') → wY_remove_12 post dp A B C (nI m) (d + 1) (nI p) xs ys pc qA qB qC) := by
  intro d
  induction d with
  | zero =>
    intro p pX pY pc qA qB qC xs ys hp hA hD
    have e : m = p + 1 := by omega
    subst e
    refine ⟨pX, pY, pc, qA, qB, qC, xs, ys, hA, hD, fun post h => ?_, fun post h => ?_⟩
    · exact br_t (by rw [nI_1]; exact nI_le (by omega) (by omega)) (nm_r (nI_pred p) h)
    · exact br_t (by rw [nI_pred]; exact nI_le (by omega) (by omega)) (nm_r (nI_pred p) h)
  | succ d ih =>
    intro p pX pY pc qA qB qC xs ys hp hA hD
    obtain ⟨c, _, hc, hn, _⟩ := hA (p + 1) (by omega)
    obtain ⟨pX', pY', pc', qA', qB', qC', xs', ys', hA', hD', HX, HY⟩ := ih (p + 1) _ _ _ (upd qA p (qA (p + 1))) (upd qB p (qB (p + 1))) (upd qC p (qC (p + 1))) _ _ (by omega) (sh_AllC (by omega) hm hn hc hA) (sh_DrK (by omega) (by omega) hD)
    refine ⟨pX', pY', pc', qA', qB', qC', xs', ys', hA', hD', fun post h => ?_, fun post h => ?_⟩
    · refine br_f (by rw [nI_1]; exact nI_ge (by omega) (by omega)) (sh_cpX' _ (by omega) hc hn ?_)
      exact nm_r (nI_1 p) (HX post h)
    · have e : nI m - 1 = nI (m - 1) := by
        have q : m = m - 1 + 1 := by omega
        rw [q, nI_pred]
        rfl
      refine br_f (by rw [e]; exact nI_ge (by omega) (by omega)) (br_f (nI_ge (b := 5) (by omega) (by decide)) ⟨9, ?_⟩)
      have L := sh_cpY (dp := dp) (A := A) (B := B) (C := C) (pg := nI m) (xs := xs) (ys := ys) (pc := pc) (qA := qA) (qB := qB) (qC := qC) post _ (p := p) (by omega) (HY post h) 8 0 rfl
      rw [sh_ov_0, sh_ov_0] at L
      exact L
end
section
/-! places, and shift -/
theorem sh_64 (x : Int32) (y : Int32) : (x.toInt64 + y.toInt64).toInt = x.toInt + y.toInt := by
  have h1 := x.toInt_lt
  have h2 := x.le_toInt
  have h3 := y.toInt_lt
  have h4 := y.le_toInt
  rw [Int64.toInt_add, Int32.toInt_toInt64, Int32.toInt_toInt64]
  exact Int.bmod_eq_of_le (by omega) (by omega)
theorem sh_plX (post : Int32 → Prop) {P Q : Int64} {x y : Int} (hx : P.toInt = x) (hy : Q.toInt = y) (h1 : (0 ≤ x ∧ x ≤ 24 ∧ 0 ≤ y ∧ y ≤ 12) → post 1) (h0 : ¬ (0 ≤ x ∧ x ≤ 24 ∧ 0 ≤ y ∧ y ≤ 12) → post 0) : wpX_isPlace post P Q := by
  have l0 : (0 : Int64).toInt = 0 := by decide
  have l1 : (24 : Int64).toInt = 24 := by decide
  have l2 : (12 : Int64).toInt = 12 := by decide
  refine br_c (fun z => h0 ?_) (fun z => br_c (fun w => h0 ?_) (fun w => br_c (fun s => h0 ?_) (fun s => br_c (fun t => h0 ?_) (fun t => h1 ?_))))
  · rw [Int64.lt_iff_toInt_lt] at z; omega
  · rw [Int64.lt_iff_toInt_lt] at w; omega
  · rw [Int64.lt_iff_toInt_lt] at s; omega
  · rw [Int64.lt_iff_toInt_lt] at t; omega
  · rw [Int64.lt_iff_toInt_lt] at z w s t; omega
theorem sh_plY {T F : Prop} {P Q : Int32} {x y : Int} (hx : P.toInt = x) (hy : Q.toInt = y) (h1 : (0 ≤ x ∧ x ≤ 24 ∧ 0 ≤ y ∧ y ≤ 12) → T) (h0 : ¬ (0 ≤ x ∧ x ≤ 24 ∧ 0 ≤ y ∧ y ≤ 12) → F) :
    (P < 0 → F) ∧ (¬ P < 0 → ((24 < P → F) ∧ (¬ 24 < P → ((Q < 0 → F) ∧ (¬ Q < 0 → ((Q ≤ 12 → T) ∧ (¬ Q ≤ 12 → F))))))) := by
  have l0 : (0 : Int32).toInt = 0 := by decide
  have l1 : (24 : Int32).toInt = 24 := by decide
  have l2 : (12 : Int32).toInt = 12 := by decide
  refine br_c (fun z => h0 ?_) (fun z => br_c (fun w => h0 ?_) (fun w => br_c (fun s => h0 ?_) (fun s => br_c (fun t => h1 ?_) (fun t => h0 ?_))))
  · rw [Int32.lt_iff_toInt_lt] at z; omega
  · rw [Int32.lt_iff_toInt_lt] at w; omega
  · rw [Int32.lt_iff_toInt_lt] at s; omega
  · rw [Int32.lt_iff_toInt_lt] at z w s
    rw [Int32.le_iff_toInt_le] at t; omega
  · rw [Int32.le_iff_toInt_le] at t; omega
theorem sh_rgY {T F : Prop} {P Q : Int32} {x y : Int} (hx : P.toInt = x) (hy : Q.toInt = y) (h1 : (-24 ≤ x ∧ x ≤ 24 ∧ -12 ≤ y ∧ y ≤ 12) → T) (h0 : ¬ (-24 ≤ x ∧ x ≤ 24 ∧ -12 ≤ y ∧ y ≤ 12) → F) :
    (P < (-24) → F) ∧ (¬ P < (-24) → ((24 < P → F) ∧ (¬ 24 < P → ((Q < (-12) → F) ∧ (¬ Q < (-12) → ((Q ≤ 12 → T) ∧ (¬ Q ≤ 12 → F))))))) := by
  have l0 : (-24 : Int32).toInt = -24 := by decide
  have l1 : (24 : Int32).toInt = 24 := by decide
  have l2 : (12 : Int32).toInt = 12 := by decide
  have l3 : (-12 : Int32).toInt = -12 := by decide
  refine br_c (fun z => h0 ?_) (fun z => br_c (fun w => h0 ?_) (fun w => br_c (fun s => h0 ?_) (fun s => br_c (fun t => h1 ?_) (fun t => h0 ?_))))
  · rw [Int32.lt_iff_toInt_lt] at z; omega
  · rw [Int32.lt_iff_toInt_lt] at w; omega
  · rw [Int32.lt_iff_toInt_lt] at s; omega
  · rw [Int32.lt_iff_toInt_lt] at z w s
    rw [Int32.le_iff_toInt_le] at t; omega
  · rw [Int32.le_iff_toInt_le] at t; omega
/-- point o + k lies within the window when it is moved by x, y -/
def sh_In (pX pY : Nat → Int32) (o : Nat) (x y : Int) (k : Nat) : Prop := 0 ≤ (pX (o + k)).toInt + x ∧ (pX (o + k)).toInt + x ≤ 24 ∧ 0 ≤ (pY (o + k)).toInt + y ∧ (pY (o + k)).toInt + y ≤ 12
theorem sh_add {a : Nat} {v : Int32} (ha : a ≤ 24) (hv : -24 ≤ v.toInt ∧ v.toInt ≤ 24) : (nI a + v).toInt = (nI a).toInt + v.toInt := by
  have h := nI_toInt (n := a) (by omega)
  exact sh_addT rfl rfl (by omega) (by omega)
section
variable {dp A B C pg : Int32} {aX aY pX pY pc qA qB qC xs ys : Nat → Int32}
theorem sh_siX (post : Int32 → Prop) {p c : Nat} {x y : Int32} (hp : p < 6) (hc : c ≤ 8) (hn : pc p = nI c) : ∀ d k : Nat, k + d = c →
    ((∀ k', k ≤ k' → k' < c → sh_In pX pY (8 * p) x.toInt y.toInt k') → post 1) → (¬ (∀ k', k ≤ k' → k' < c → sh_In pX pY (8 * p) x.toInt y.toInt k') → post 0) →
    wX_staysInside_9 post (nI p) x.toInt64 y.toInt64 (nI (8 * p)) dp A B C pg aX aY pX pY pc qA qB qC (d + 1) (nI k) := by
  have j1 : vp_in (nI p) 6 := vp_in_nI hp (by decide)
  have d1 : (nI p).toNatClampNeg = p := nI_clamp (by omega)
  intro d
  induction d with
  | zero =>
    intro k hk h1 h0
    exact ⟨j1, br_t (by rw [d1, hn]; exact nI_le (by omega) (by omega)) (h1 (fun k' _ _ => absurd hk (by omega)))⟩
  | succ d ih =>
    intro k hk h1 h0
    have i1 : vp_in (nI (8 * p) + nI k) 48 := by rw [nI_add]; exact vp_in_nI (by omega) (by decide)
    have c1 : (nI (8 * p) + nI k).toNatClampNeg = 8 * p + k := by rw [nI_add]; exact nI_clamp (by omega)
    refine ⟨j1, br_f (by rw [d1, hn]; exact nI_ge (by omega) (by omega)) ⟨i1, i1, ?_⟩⟩
    refine sh_plX _ (sh_64 _ _) (sh_64 _ _) ?_ ?_
    · intro w
      rw [c1] at w
      refine br_f (by decide) (nm_r (nI_1 k) (ih (k + 1) (by omega) (fun H => h1 (fun k' a b => ?_)) (fun H => h0 (fun Z => H (fun k' a b => Z k' (by omega) b)))))
      by_cases e : k' = k
      · subst e; exact w
      · exact H k' (by omega) b
    · intro w
      rw [c1] at w
      exact br_t rfl (h0 (fun Z => w (Z k (by omega) (by omega))))
theorem sh_siY (post : Int32 → SY → Prop) {p c : Nat} {x y : Int32} (hp : p < 6) (hc : c ≤ 8) (hn : pc p = nI c) (hx : -24 ≤ x.toInt ∧ x.toInt ≤ 24) (hy : -12 ≤ y.toInt ∧ y.toInt ≤ 12)
    (hP : ∀ k, k < c → sh_Pt (pX (8 * p + k)) (pY (8 * p + k)) (xs (8 * p + k)) (ys (8 * p + k))) : ∀ d k : Nat, k + d = c →
    ((∀ k', k ≤ k' → k' < c → sh_In pX pY (8 * p) x.toInt y.toInt k') → ∃ n126 : Nat, wY_shift_126 post (nI p) x y dp A B C pg n126 0 xs ys pc qA qB qC) → (¬ (∀ k', k ≤ k' → k' < c → sh_In pX pY (8 * p) x.toInt y.toInt k') → post (-2) (dp, A, B, C, pg, xs, ys, pc, qA, qB, qC)) →
    wY_shift_40 post (nI p) x y dp A B C pg xs ys pc qA qB qC (d + 1) (nI k) := by
  have j1 : vp_in (nI p) 6 := vp_in_nI hp (by decide)
  have d1 : (nI p).toNatClampNeg = p := nI_clamp (by omega)
  intro d
  induction d with
  | zero =>
    intro k hk h1 h0
    exact ⟨j1, br_t (by rw [d1, hn]; exact nI_le (by omega) (by omega)) (h1 (fun k' _ _ => absurd hk (by omega)))⟩
  | succ d ih =>
    intro k hk h1 h0
    have w2 : 8 * nI p + nI k = nI (8 * p + k) := by
      have e : 8 * nI p = nI (8 * p) := pk_mul 8 p
      rw [e, nI_add]
    have i1 : vp_in (8 * nI p + nI k) 56 := by rw [w2]; exact vp_in_nI (by omega) (by decide)
    have c1 : (8 * nI p + nI k).toNatClampNeg = 8 * p + k := by rw [w2]; exact nI_clamp (by omega)
    obtain ⟨a, b, ha, hb, e1, e2, f1, f2⟩ := hP k (by omega)
    have t1 : (nI a + x).toInt = (pX (8 * p + k)).toInt + x.toInt := by rw [e1]; exact sh_add ha hx
    have t2 : (nI b + y).toInt = (pY (8 * p + k)).toInt + y.toInt := by rw [e2]; exact sh_add (by omega) (by omega)
    refine ⟨j1, br_f (by rw [d1, hn]; exact nI_ge (by omega) (by omega)) (br_f (nI_ge (b := 8) (by omega) (by decide)) ⟨i1, nm_r (e' := nI a + x) (by rw [c1, f1]) ⟨i1, nm_r (e' := nI b + y) (by rw [c1, f2]) ?_⟩⟩)⟩
    refine sh_plY t1 t2 ?_ ?_
    · intro w
      refine nm_r (nI_1 k) (ih (k + 1) (by omega) (fun H => h1 (fun k' a b => ?_)) (fun H => h0 (fun Z => H (fun k' a b => Z k' (by omega) b))))
      by_cases e : k' = k
      · subst e; exact w
      · exact H k' (by omega) b
    · intro w
      exact h0 (fun Z => w (Z k (by omega) (by omega)))
theorem sh_shX (post : Int32 → SX → Prop) {p c : Nat} {x y : Int32} (hp : p < 6) (hc : c ≤ 8) (hn : pc p = nI c)
    (h : post 0 (dp, A, B, C, pg, aX, aY, sh_ov pX (fun j => pX j + x) (8 * p) c, sh_ov pY (fun j => pY j + y) (8 * p) c, pc, qA, qB, qC)) :
    ∀ d k : Nat, k + d = c → wX_shift_34 post (nI p) x y (nI (8 * p)) dp A B C pg (d + 1) (nI k) aX aY (sh_ov pX (fun j => pX j + x) (8 * p) k) (sh_ov pY (fun j => pY j + y) (8 * p) k) pc qA qB qC := by
  have j1 : vp_in (nI p) 6 := vp_in_nI hp (by decide)
  have d1 : (nI p).toNatClampNeg = p := nI_clamp (by omega)
  intro d
  induction d with
  | zero =>
    intro k hk
    have e : k = c := by omega
    subst e
    exact ⟨j1, br_t (by rw [d1, hn]; exact nI_le (by omega) (by omega)) h⟩
  | succ d ih =>
    intro k hk
    have i1 : vp_in (nI (8 * p) + nI k) 48 := by rw [nI_add]; exact vp_in_nI (by omega) (by decide)
    have c1 : (nI (8 * p) + nI k).toNatClampNeg = 8 * p + k := by rw [nI_add]; exact nI_clamp (by omega)
    refine ⟨j1, br_f (by rw [d1, hn]; exact nI_ge (by omega) (by omega)) ⟨i1, i1, nm_r (e' := sh_ov pX (fun j => pX j + x) (8 * p) (k + 1)) ?_ ⟨i1, i1, nm_r (e' := sh_ov pY (fun j => pY j + y) (8 * p) (k + 1)) ?_ (nm_r (nI_1 k) (ih (k + 1) (by omega)))⟩⟩⟩
    · rw [c1]
      exact sh_ov_s (by rw [sh_ov_out (by omega)])
    · rw [c1]
      exact sh_ov_s (by rw [sh_ov_out (by omega)])
theorem sh_shY (post : Int32 → SY → Prop) {p c : Nat} {x y : Int32} (hp : p < 6) (hc : c ≤ 8) (hn : pc p = nI c)
    (h : post 0 (dp, A, B, C, pg, sh_ov xs (fun j => xs j + x) (8 * p) c, sh_ov ys (fun j => ys j + y) (8 * p) c, pc, qA, qB, qC)) :
    ∀ d k : Nat, k + d = c → wY_shift_126 post (nI p) x y dp A B C pg (d + 1) (nI k) (sh_ov xs (fun j => xs j + x) (8 * p) k) (sh_ov ys (fun j => ys j + y) (8 * p) k) pc qA qB qC := by
  have j1 : vp_in (nI p) 6 := vp_in_nI hp (by decide)
  have d1 : (nI p).toNatClampNeg = p := nI_clamp (by omega)
  intro d
  induction d with
  | zero =>
    intro k hk
    have e : k = c := by omega
    subst e
    exact ⟨j1, br_t (by rw [d1, hn]; exact nI_le (by omega) (by omega)) h⟩
  | succ d ih =>
    intro k hk
    have w2 : 8 * nI p + nI k = nI (8 * p + k) := by
      have e : 8 * nI p = nI (8 * p) := pk_mul 8 p
      rw [e, nI_add]
    have i1 : vp_in (8 * nI p + nI k) 56 := by rw [w2]; exact vp_in_nI (by omega) (by decide)
    have c1 : (8 * nI p + nI k).toNatClampNeg = 8 * p + k := by rw [w2]; exact nI_clamp (by omega)
    refine ⟨j1, br_f (by rw [d1, hn]; exact nI_ge (by omega) (by omega)) (br_f (nI_ge (b := 8) (by omega) (by decide)) ⟨i1, i1, nm_r (e' := sh_ov xs (fun j => xs j + x) (8 * p) (k + 1)) ?_ ⟨i1, i1, nm_r (e' := sh_ov ys (fun j => ys j + y) (8 * p) (k + 1)) ?_ (nm_r (nI_1 k) (ih (k + 1) (by omega)))⟩⟩)⟩
    · rw [c1]
      exact sh_ov_s (by rw [sh_ov_out (by omega)])
    · rw [c1]
      exact sh_ov_s (by rw [sh_ov_out (by omega)])
theorem sh_mv {a : Nat} {M : Int} {v : Int32} (ha : a ≤ 24) (hM : M ≤ 24) (hv : -24 ≤ v.toInt ∧ v.toInt ≤ 24) (h0 : 0 ≤ (nI a).toInt + v.toInt) (h1 : (nI a).toInt + v.toInt ≤ M) : ∃ b : Nat, (b : Int) ≤ M ∧ nI a + v = nI b := by
  have t := sh_add ha hv
  have w := nI_toInt (n := a) (by omega)
  rw [w] at t h0 h1
  refine ⟨((a : Int) + v.toInt).toNat, by omega, Int32.toInt_inj.mp ?_⟩
  rw [t, nI_toInt (n := ((a : Int) + v.toInt).toNat) (by omega)]
  omega
theorem sh_AllS {m p c : Nat} {x y : Int32} (hp : p < m) (hn : pc p = nI c) (hc : c ≤ 8) (hx : -24 ≤ x.toInt ∧ x.toInt ≤ 24) (hy : -12 ≤ y.toInt ∧ y.toInt ≤ 12)
    (hI : ∀ k', 0 ≤ k' → k' < c → sh_In pX pY (8 * p) x.toInt y.toInt k') (hA : sh_All m pX pY xs ys pc) :
    sh_All m (sh_ov pX (fun j => pX j + x) (8 * p) c) (sh_ov pY (fun j => pY j + y) (8 * p) c) (sh_ov xs (fun j => xs j + x) (8 * p) c) (sh_ov ys (fun j => ys j + y) (8 * p) c) pc := by
  intro t ht
  obtain ⟨e, h1, h2, h3, h4⟩ := hA t ht
  refine ⟨e, h1, h2, h3, fun k hk => ?_⟩
  obtain ⟨a, b, ha, hb, e1, e2, f1, f2⟩ := h4 k hk
  by_cases q : t = p
  · subst q
    have ec : e = c := (nI_eq (by omega) (by omega)).mp (h3.symm.trans hn)
    subst ec
    rw [sh_ov_in (by omega) (by omega), sh_ov_in (by omega) (by omega), sh_ov_in (by omega) (by omega), sh_ov_in (by omega) (by omega)]
    show sh_Pt (pX (8 * t + k) + x) (pY (8 * t + k) + y) (xs (8 * t + k) + x) (ys (8 * t + k) + y)
    obtain ⟨g1, g2, g3, g4⟩ := hI k (by omega) hk
    rw [e1] at g1 g2
    rw [e2] at g3 g4
    obtain ⟨a', ha', ea⟩ := sh_mv ha (by omega) hx g1 g2
    obtain ⟨b', hb', eb⟩ := sh_mv (a := b) (by omega) (by omega) (by omega) g3 g4
    rw [e1, e2, f1, f2, ea, eb]
    exact ⟨a', b', by omega, by omega, rfl, rfl, rfl, rfl⟩
  · rw [sh_ov_out (by omega), sh_ov_out (by omega), sh_ov_out (by omega), sh_ov_out (by omega)]
    exact ⟨a, b, ha, hb, e1, e2, f1, f2⟩
end
end
section
/-! the methods, one answer for both sides -/
theorem sh_ix2 (x : Int32) {n : Nat} (hn : n < 2 ^ 31) : (x < 0 ∨ (¬ x < 0 ∧ nI n ≤ x)) ∨ ∃ j : Nat, j < n ∧ x = nI j := by
  rcases sh_ix x hn with h | h | h
  · exact Or.inl (Or.inl h)
  · exact Or.inl (Or.inr h)
  · exact Or.inr h
section
variable {dp A B C pg : Int32} {aX aY pX pY pc qA qB qC xs ys : Nat → Int32} {f : Nat → Nat → Option Nat}
theorem sh_m_owner (hO : sh_O (dp, A, B, C, pg, aX, aY, pX, pY, pc, qA, qB, qC) (dp, A, B, C, pg, xs, ys, pc, qA, qB, qC) f) (x y : Int32) : ∃ r : Int32, (∀ post : Int32 → Prop, post r → wpX_owner post (dp, A, B, C, pg, aX, aY, pX, pY, pc, qA, qB, qC) x y) ∧ (∀ post : Int32 → Prop, post r → wpY_owner post (dp, A, B, C, pg, xs, ys, pc, qA, qB, qC) x y) := by
  rcases sh_ix2 x (n := 24) (by decide) with hx | ⟨i, hi, rfl⟩
  · refine ⟨-1, fun post h => ?_, fun post h => ?_⟩
    · unfold wpX_owner
      refine sh_pXc _ hx ?_
      exact br_t rfl h
    · unfold wpY_owner
      refine sh_cY1 _ hx ?_
      exact br_f (by decide) h
  · rcases sh_ix2 y (n := 12) (by decide) with hy | ⟨j, hj, rfl⟩
    · refine ⟨-1, fun post h => ?_, fun post h => ?_⟩
      · unfold wpX_owner
        refine sh_pXr _ hi hy ?_
        exact br_t rfl h
      · unfold wpY_owner
        refine sh_cY0 _ hi ?_
        refine br_t rfl ?_
        refine sh_rY1 _ hy ?_
        exact br_f (by decide) h
    · refine ⟨sh_y (f i j), fun post h => ?_, fun post h => ?_⟩
      · unfold wpX_owner
        refine sh_pX1 _ hi hj ?_
        refine br_f (by decide) ?_
        refine (hO i j hi hj).2.1 _ ?_
        refine sh_if (sh_xn (sh_Ok hO hi hj)) (fun z => ?_) (fun z => ?_)
        · rw [z] at h; exact h
        · generalize f i j = o at h z ⊢
          cases o with
          | none => exact absurd rfl z
          | some q => exact h
      · unfold wpY_owner
        refine sh_cY0 _ hi ?_
        refine br_t rfl ?_
        refine sh_rY0 _ hj ?_
        refine br_t rfl ?_
        exact (hO i j hi hj).2.2 _ h
theorem sh_m_depthAt (hO : sh_O (dp, A, B, C, pg, aX, aY, pX, pY, pc, qA, qB, qC) (dp, A, B, C, pg, xs, ys, pc, qA, qB, qC) f) (x y : Int32) : ∃ r : Int32, (∀ post : Int32 → Prop, post r → wpX_depthAt post (dp, A, B, C, pg, aX, aY, pX, pY, pc, qA, qB, qC) x y) ∧ (∀ post : Int32 → Prop, post r → wpY_depthAt post (dp, A, B, C, pg, xs, ys, pc, qA, qB, qC) x y) := by
  rcases sh_ix2 x (n := 24) (by decide) with hx | ⟨i, hi, rfl⟩
  · refine ⟨1000000, fun post h => ?_, fun post h => ?_⟩
    · unfold wpX_depthAt
      refine sh_pXc _ hx ?_
      exact br_t rfl h
    · unfold wpY_depthAt
      refine sh_cY1 _ hx ?_
      exact br_f (by decide) h
  · rcases sh_ix2 y (n := 12) (by decide) with hy | ⟨j, hj, rfl⟩
    · refine ⟨1000000, fun post h => ?_, fun post h => ?_⟩
      · unfold wpX_depthAt
        refine sh_pXr _ hi hy ?_
        exact br_t rfl h
      · unfold wpY_depthAt
        refine sh_cY0 _ hi ?_
        refine br_t rfl ?_
        refine sh_rY1 _ hy ?_
        exact br_f (by decide) h
    · have K := hO i j hi hj
      generalize f i j = o at K
      obtain ⟨k1, KX, KY⟩ := K
      cases o with
      | none =>
        refine ⟨1000000, fun post h => ?_, fun post h => ?_⟩
        · unfold wpX_depthAt
          refine sh_pX1 _ hi hj ?_
          refine br_f (by decide) ?_
          refine KX _ ?_
          exact br_t rfl h
        · unfold wpY_depthAt
          refine sh_cY0 _ hi ?_
          refine br_t rfl ?_
          refine sh_rY0 _ hj ?_
          refine br_t rfl ?_
          refine KY _ ?_
          exact br_f (by decide) h
      | some q =>
        have hq := k1 q rfl
        have T := sh_t1 q (by omega)
        refine ⟨sh_dep qA qB qC q (nI i) (nI j), fun post h => ?_, fun post h => ?_⟩
        · unfold wpX_depthAt
          refine sh_pX1 _ hi hj ?_
          refine br_f (by decide) ?_
          refine KX _ ?_
          refine br_f T.1 ?_
          exact sh_dX dp A B C pg aX aY pX pY pc qA qB qC _ hq h
        · unfold wpY_depthAt
          refine sh_cY0 _ hi ?_
          refine br_t rfl ?_
          refine sh_rY0 _ hj ?_
          refine br_t rfl ?_
          refine KY _ ?_
          refine br_t T.2.2.2 ?_
          exact sh_dY dp A B C pg pc qA qB qC xs ys _ hq h
theorem sh_m_spans (hO : sh_O (dp, A, B, C, pg, aX, aY, pX, pY, pc, qA, qB, qC) (dp, A, B, C, pg, xs, ys, pc, qA, qB, qC) f) (y : Int32) : ∃ r : Int32, (∀ post : Int32 → Prop, post r → wpX_spans post (dp, A, B, C, pg, aX, aY, pX, pY, pc, qA, qB, qC) y) ∧ (∀ post : Int32 → Prop, post r → wpY_spans post (dp, A, B, C, pg, xs, ys, pc, qA, qB, qC) y) := by
  rcases sh_ix2 y (n := 12) (by decide) with hy | ⟨j, hj, rfl⟩
  · refine ⟨-1, fun post h => ?_, fun post h => ?_⟩
    · unfold wpX_spans
      refine sh_rX0 _ hy ?_
      exact br_t rfl h
    · unfold wpY_spans
      refine sh_rY1 _ hy ?_
      exact br_f (by decide) h
  · exact sh_sp hO hj
theorem sh_m_spanStart (hO : sh_O (dp, A, B, C, pg, aX, aY, pX, pY, pc, qA, qB, qC) (dp, A, B, C, pg, xs, ys, pc, qA, qB, qC) f) (y s : Int32) : ∃ r : Int32, (∀ post : Int32 → Prop, post r → wpX_spanStart post (dp, A, B, C, pg, aX, aY, pX, pY, pc, qA, qB, qC) y s) ∧ (∀ post : Int32 → Prop, post r → wpY_spanStart post (dp, A, B, C, pg, xs, ys, pc, qA, qB, qC) y s) := by
  rcases sh_ix2 y (n := 12) (by decide) with hy | ⟨j, hj, rfl⟩
  · refine ⟨-1, fun post h => ?_, fun post h => ?_⟩
    · unfold wpX_spanStart
      refine sh_rX0 _ hy ?_
      exact br_t rfl h
    · unfold wpY_spanStart
      refine sh_rY1 _ hy ?_
      exact br_f (by decide) h
  · obtain ⟨o, ho, SX1, SY1⟩ := sh_st hO s hj
    refine ⟨sh_y o, fun post h => ?_, fun post h => ?_⟩
    · unfold wpX_spanStart
      refine sh_rX1 _ hj ?_
      refine br_f (by decide) ?_
      refine SX1 _ ?_
      cases o with
      | none => exact br_t rfl h
      | some q => exact br_f (sh_t1 q (by have := ho q rfl; omega)).1 h
    · unfold wpY_spanStart
      refine sh_rY0 _ hj ?_
      refine br_t rfl ?_
      exact SY1 _ h
theorem sh_m_spanOwner (hO : sh_O (dp, A, B, C, pg, aX, aY, pX, pY, pc, qA, qB, qC) (dp, A, B, C, pg, xs, ys, pc, qA, qB, qC) f) (y s : Int32) : ∃ r : Int32, (∀ post : Int32 → Prop, post r → wpX_spanOwner post (dp, A, B, C, pg, aX, aY, pX, pY, pc, qA, qB, qC) y s) ∧ (∀ post : Int32 → Prop, post r → wpY_spanOwner post (dp, A, B, C, pg, xs, ys, pc, qA, qB, qC) y s) := by
  rcases sh_ix2 y (n := 12) (by decide) with hy | ⟨j, hj, rfl⟩
  · refine ⟨-1, fun post h => ?_, fun post h => ?_⟩
    · unfold wpX_spanOwner
      refine sh_rX0 _ hy ?_
      exact br_t rfl h
    · unfold wpY_spanOwner
      refine sh_rY1 _ hy ?_
      exact br_f (by decide) h
  · obtain ⟨o, ho, SX1, SY1⟩ := sh_st hO s hj
    cases o with
    | none =>
      refine ⟨-2, fun post h => ?_, fun post h => ?_⟩
      · unfold wpX_spanOwner
        refine sh_rX1 _ hj ?_
        refine br_f (by decide) ?_
        refine SX1 _ ?_
        exact br_t rfl h
      · unfold wpY_spanOwner
        refine sh_rY0 _ hj ?_
        refine br_t rfl ?_
        refine SY1 _ ?_
        exact br_f (by decide) h
    | some i =>
      have hi := ho i rfl
      have Ti := sh_t1 i (by omega)
      have K := hO i j hi hj
      generalize f i j = o at K
      obtain ⟨k1, KX, KY⟩ := K
      cases o with
      | none =>
        refine ⟨-3, fun post h => ?_, fun post h => ?_⟩
        · unfold wpX_spanOwner
          refine sh_rX1 _ hj ?_
          refine br_f (by decide) ?_
          refine SX1 _ ?_
          refine br_f Ti.1 ?_
          refine KX _ ?_
          exact br_t rfl h
        · unfold wpY_spanOwner
          refine sh_rY0 _ hj ?_
          refine br_t rfl ?_
          refine SY1 _ ?_
          refine br_t Ti.2.2.2 ?_
          refine KY _ ?_
          exact br_f (by decide) h
      | some q =>
        have T := sh_t1 q (by have := k1 q rfl; omega)
        refine ⟨nI q, fun post h => ?_, fun post h => ?_⟩
        · unfold wpX_spanOwner
          refine sh_rX1 _ hj ?_
          refine br_f (by decide) ?_
          refine SX1 _ ?_
          refine br_f Ti.1 ?_
          refine KX _ ?_
          exact br_f T.1 h
        · unfold wpY_spanOwner
          refine sh_rY0 _ hj ?_
          refine br_t rfl ?_
          refine SY1 _ ?_
          refine br_t Ti.2.2.2 ?_
          refine KY _ ?_
          exact br_t T.2.2.2 h
theorem sh_m_lit (hO : sh_O (dp, A, B, C, pg, aX, aY, pX, pY, pc, qA, qB, qC) (dp, A, B, C, pg, xs, ys, pc, qA, qB, qC) f) : ∃ r : Int32, (∀ post : Int32 → Prop, post r → wpX_lit post (dp, A, B, C, pg, aX, aY, pX, pY, pc, qA, qB, qC)) ∧ (∀ post : Int32 → Prop, post r → wpY_lit post (dp, A, B, C, pg, xs, ys, pc, qA, qB, qC)) := by
  obtain ⟨r, HX, HY⟩ := sh_liO hO 12 0 0 rfl
  exact ⟨r, fun post h => ⟨13, HX post h⟩, fun post h => ⟨13, HY post h⟩⟩
theorem sh_m_seams (hO : sh_O (dp, A, B, C, pg, aX, aY, pX, pY, pc, qA, qB, qC) (dp, A, B, C, pg, xs, ys, pc, qA, qB, qC) f) : ∃ r : Int32, (∀ post : Int32 → Prop, post r → wpX_seams post (dp, A, B, C, pg, aX, aY, pX, pY, pc, qA, qB, qC)) ∧ (∀ post : Int32 → Prop, post r → wpY_seams post (dp, A, B, C, pg, xs, ys, pc, qA, qB, qC)) := by
  obtain ⟨r, HX, HY⟩ := sh_seO hO 12 0 0 rfl
  exact ⟨r, fun post h => ⟨13, HX post h⟩, fun post h => ⟨13, HY post h⟩⟩
end
section
variable {dp A B C : Int32} {aX aY pX pY pc qA qB qC xs ys : Nat → Int32} {m : Nat}
theorem sh_m_covers (hm : m ≤ 6) (hA : sh_All m pX pY xs ys pc) (w x y : Int32) : ∃ r : Int32, (∀ post : Int32 → Prop, post r → wpX_covers post (dp, A, B, C, nI m, aX, aY, pX, pY, pc, qA, qB, qC) w x y) ∧ (∀ post : Int32 → Prop, post r → wpY_covers post (dp, A, B, C, nI m, xs, ys, pc, qA, qB, qC) w x y) := by
  rcases sh_ix2 w (n := m) (by omega) with hw | ⟨p, hp, rfl⟩
  · refine ⟨-1, fun post h => ?_, fun post h => ?_⟩
    · unfold wpX_covers
      refine sh_dX0 _ hw ?_
      exact br_t rfl h
    · unfold wpY_covers
      refine sh_mY1 _ hw ?_
      exact br_f (by decide) h
  · rcases sh_ix2 x (n := 24) (by decide) with hx | ⟨i, hi, rfl⟩
    · refine ⟨-2, fun post h => ?_, fun post h => ?_⟩
      · unfold wpX_covers
        refine sh_dX1 _ hm hp ?_
        refine br_f (by decide) ?_
        refine sh_pXc _ hx ?_
        exact br_t rfl h
      · unfold wpY_covers
        refine sh_mY0 _ hm hp ?_
        refine br_t rfl ?_
        refine sh_cY1 _ hx ?_
        exact br_f (by decide) h
    · rcases sh_ix2 y (n := 12) (by decide) with hy | ⟨j, hj, rfl⟩
      · refine ⟨-2, fun post h => ?_, fun post h => ?_⟩
        · unfold wpX_covers
          refine sh_dX1 _ hm hp ?_
          refine br_f (by decide) ?_
          refine sh_pXr _ hi hy ?_
          exact br_t rfl h
        · unfold wpY_covers
          refine sh_mY0 _ hm hp ?_
          refine br_t rfl ?_
          refine sh_cY0 _ hi ?_
          refine br_t rfl ?_
          refine sh_rY1 _ hy ?_
          exact br_f (by decide) h
      · obtain ⟨b, hb, CX, CY⟩ := sh_cov dp A B C (nI m) aX aY pX pY pc qA qB qC xs ys (p := p) (by omega) hi hj (hA p hp)
        refine ⟨b, fun post h => ?_, fun post h => ?_⟩
        · unfold wpX_covers
          refine sh_dX1 _ hm hp ?_
          refine br_f (by decide) ?_
          refine sh_pX1 _ hi hj ?_
          refine br_f (by decide) ?_
          refine CX _ ?_
          rcases hb with rfl | rfl
          · exact br_t rfl h
          · exact br_f (by decide) h
        · unfold wpY_covers
          refine sh_mY0 _ hm hp ?_
          refine br_t rfl ?_
          refine sh_cY0 _ hi ?_
          refine br_t rfl ?_
          refine sh_rY0 _ hj ?_
          refine br_t rfl ?_
          refine CY _ ?_
          rcases hb with rfl | rfl
          · exact br_t rfl h
          · exact br_f (by decide) h
theorem sh_m_owned {f : Nat → Nat → Option Nat} (hm : m ≤ 6) (hO : sh_O (dp, A, B, C, nI m, aX, aY, pX, pY, pc, qA, qB, qC) (dp, A, B, C, nI m, xs, ys, pc, qA, qB, qC) f) (w : Int32) : ∃ r : Int32, (∀ post : Int32 → Prop, post r → wpX_owned post (dp, A, B, C, nI m, aX, aY, pX, pY, pc, qA, qB, qC) w) ∧ (∀ post : Int32 → Prop, post r → wpY_owned post (dp, A, B, C, nI m, xs, ys, pc, qA, qB, qC) w) := by
  rcases sh_ix2 w (n := m) (by omega) with hw | ⟨p, hp, rfl⟩
  · refine ⟨-1, fun post h => ?_, fun post h => ?_⟩
    · unfold wpX_owned
      refine sh_dX0 _ hw ?_
      exact br_t rfl h
    · unfold wpY_owned
      refine sh_mY1 _ hw ?_
      exact br_f (by decide) h
  · obtain ⟨r, HX, HY⟩ := sh_owO hO (p := p) (by omega) 12 0 0 rfl
    refine ⟨r, fun post h => ?_, fun post h => ?_⟩
    · unfold wpX_owned
      refine sh_dX1 _ hm hp ?_
      exact br_f (by decide) ⟨13, HX post h⟩
    · unfold wpY_owned
      refine sh_mY0 _ hm hp ?_
      exact br_t rfl ⟨13, HY post h⟩
theorem sh_m_covered (hm : m ≤ 6) (hA : sh_All m pX pY xs ys pc) (w : Int32) : ∃ r : Int32, (∀ post : Int32 → Prop, post r → wpX_covered post (dp, A, B, C, nI m, aX, aY, pX, pY, pc, qA, qB, qC) w) ∧ (∀ post : Int32 → Prop, post r → wpY_covered post (dp, A, B, C, nI m, xs, ys, pc, qA, qB, qC) w) := by
  rcases sh_ix2 w (n := m) (by omega) with hw | ⟨p, hp, rfl⟩
  · refine ⟨-1, fun post h => ?_, fun post h => ?_⟩
    · unfold wpX_covered
      refine sh_dX0 _ hw ?_
      exact br_t rfl h
    · unfold wpY_covered
      refine sh_mY1 _ hw ?_
      exact br_f (by decide) h
  · obtain ⟨r, HX, HY⟩ := sh_cvO (dp := dp) (A := A) (B := B) (C := C) (pg := nI m) (aX := aX) (aY := aY) (qA := qA) (qB := qB) (qC := qC) (hA p hp) (by omega) 12 0 0 rfl
    refine ⟨r, fun post h => ?_, fun post h => ?_⟩
    · unfold wpX_covered
      refine sh_dX1 _ hm hp ?_
      exact br_f (by decide) ⟨13, HX post h⟩
    · unfold wpY_covered
      refine sh_mY0 _ hm hp ?_
      exact br_t rfl ⟨13, HY post h⟩
end
end
section
/-! the changing methods: both sides' ends -/
section
variable {dp A B C pg : Int32} {aX aY pX pY pc qA qB qC xs ys : Nat → Int32}
theorem sh_drX' (post : Int32 → SX → Prop) {n m : Nat} (hn : n ≤ 8) (hm : m < 6)
    (h : post (nI m) (nI n, A, B, C, nI (m + 1), aX, aY, sh_ov pX (fun j => aX (j - 8 * m)) (8 * m) n, sh_ov pY (fun j => aY (j - 8 * m)) (8 * m) n, upd pc m (nI n), upd qA m A, upd qB m B, upd qC m C)) :
    ∃ n34 : Nat, wX_draw_34 post (nI m) (nI (8 * m)) (nI n) A B C (nI m) n34 0 aX aY pX pY pc qA qB qC := by
  have L := sh_drX post hn hm h n 0 (by omega)
  rw [sh_ov_0, sh_ov_0] at L
  exact ⟨n + 1, L⟩
theorem sh_drY' (post : Int32 → SY → Prop) {n m : Nat} (hm : m < 6)
    (h : post (nI m) (nI n, A, B, C, nI (m + 1), sh_ov xs (fun j => xs (48 + (j - 8 * m))) (8 * m) 8, sh_ov ys (fun j => ys (48 + (j - 8 * m))) (8 * m) 8, upd pc m (nI n), upd qA m A, upd qB m B, upd qC m C)) :
    ∃ n26 : Nat, wY_draw_26 post (nI m) (nI n) A B C (nI m) n26 0 xs ys pc qA qB qC := by
  have L := sh_drY post hm h 8 0 rfl
  rw [sh_ov_0, sh_ov_0] at L
  exact ⟨9, L⟩
theorem sh_shX' (post : Int32 → SX → Prop) {p c : Nat} {x y : Int32} (hp : p < 6) (hc : c ≤ 8) (hn : pc p = nI c)
    (h : post 0 (dp, A, B, C, pg, aX, aY, sh_ov pX (fun j => pX j + x) (8 * p) c, sh_ov pY (fun j => pY j + y) (8 * p) c, pc, qA, qB, qC)) :
    ∃ n34 : Nat, wX_shift_34 post (nI p) x y (nI (8 * p)) dp A B C pg n34 0 aX aY pX pY pc qA qB qC := by
  have L := sh_shX post hp hc hn h c 0 (by omega)
  rw [sh_ov_0, sh_ov_0] at L
  exact ⟨c + 1, L⟩
theorem sh_shY' (post : Int32 → SY → Prop) {p c : Nat} {x y : Int32} (hp : p < 6) (hc : c ≤ 8) (hn : pc p = nI c)
    (h : post 0 (dp, A, B, C, pg, sh_ov xs (fun j => xs j + x) (8 * p) c, sh_ov ys (fun j => ys j + y) (8 * p) c, pc, qA, qB, qC)) :
    ∃ n126 : Nat, wY_shift_126 post (nI p) x y dp A B C pg n126 0 xs ys pc qA qB qC := by
  have L := sh_shY post hp hc hn h c 0 (by omega)
  rw [sh_ov_0, sh_ov_0] at L
  exact ⟨c + 1, L⟩
end
theorem sh_ofI {v : Int32} {M : Nat} (h0 : 0 ≤ v.toInt) (h1 : v.toInt ≤ M) (hM : M ≤ 24) : ∃ a : Nat, a ≤ M ∧ v = nI a := by
  refine ⟨v.toInt.toNat, by omega, Int32.toInt_inj.mp ?_⟩
  rw [nI_toInt (by omega)]
  omega
section
variable {dp A B C : Int32} {aX aY pX pY pc qA qB qC xs ys : Nat → Int32} {m n : Nat}
theorem sh_DrP {x y : Int32} (hD : sh_Dr n aX aY xs ys) (w : 0 ≤ x.toInt ∧ x.toInt ≤ 24 ∧ 0 ≤ y.toInt ∧ y.toInt ≤ 12) : sh_Dr (n + 1) (upd aX n x) (upd aY n y) (upd xs (48 + n) x) (upd ys (48 + n) y) := by
  intro k hk
  by_cases e : k = n
  · subst e
    obtain ⟨a, ha, ea⟩ := sh_ofI (v := x) (M := 24) w.1 (by omega) (by omega)
    obtain ⟨b, hb, eb⟩ := sh_ofI (v := y) (M := 12) w.2.2.1 (by omega) (by omega)
    rw [pk_us, pk_us, pk_us, pk_us]
    exact ⟨a, b, ha, hb, ea, eb, ea, eb⟩
  · have z := hD k (by omega)
    rw [pk_un e, pk_un e, pk_un (by omega), pk_un (by omega)]
    exact z
theorem sh_AllP {x y : Int32} (hm : m ≤ 6) (hA : sh_All m pX pY xs ys pc) : sh_All m pX pY (upd xs (48 + n) x) (upd ys (48 + n) y) pc := by
  intro p hp
  obtain ⟨c, h1, h2, h3, h4⟩ := hA p hp
  refine ⟨c, h1, h2, h3, fun k hk => ?_⟩
  have z := h4 k hk
  rw [pk_un (by omega), pk_un (by omega)]
  exact z
theorem sh_AllM {m' : Nat} (h : m' ≤ m) (hA : sh_All m pX pY xs ys pc) : sh_All m' pX pY xs ys pc := fun p hp => hA p (by omega)
end
end
section
/-! what is owed -/
def i_Rel (_ : Nat) (u : SX) (v : SY) : Prop := ∃ (n m : Nat) (A B C : Int32) (aX aY pX pY pc qA qB qC xs ys : Nat → Int32), n ≤ 8 ∧ m ≤ 6 ∧
  u = (nI n, A, B, C, nI m, aX, aY, pX, pY, pc, qA, qB, qC) ∧ v = (nI n, A, B, C, nI m, xs, ys, pc, qA, qB, qC) ∧ sh_Dr n aX aY xs ys ∧ sh_All m pX pY xs ys pc
theorem sh_mk {k n m : Nat} {A B C : Int32} {aX aY pX pY pc qA qB qC xs ys : Nat → Int32} (hn : n ≤ 8) (hm : m ≤ 6) (hD : sh_Dr n aX aY xs ys) (hA : sh_All m pX pY xs ys pc) :
    i_Rel k (nI n, A, B, C, nI m, aX, aY, pX, pY, pc, qA, qB, qC) (nI n, A, B, C, nI m, xs, ys, pc, qA, qB, qC) :=
  ⟨n, m, A, B, C, aX, aY, pX, pY, pc, qA, qB, qC, xs, ys, hn, hm, rfl, rfl, hD, hA⟩
theorem i_up {k : Nat} {u : SX} {v : SY} (h : i_Rel k u v) : i_Rel (k + 4) u v := h
theorem i_vc0 : wpX_init (fun u => wpY_init (fun v => i_Rel 0 u v)) :=
  ⟨0, 0, 0, 0, 0, fun _ => 0, fun _ => 0, fun _ => 0, fun _ => 0, fun _ => 0, fun _ => 0, fun _ => 0, fun _ => 0, fun _ => 0, fun _ => 0, by omega, by omega, rfl, rfl, fun k h => absurd h (by omega), fun k h => absurd h (by omega)⟩
theorem i_vc_point {k : Nat} {u : SX} {v : SY} (I : i_Rel k u v) (hk : k + 4 ≤ 2048) (v1 : Int32) (v2 : Int32) : wpX_point (fun r u' => wpY_point (fun r' v' => r' = r ∧ i_Rel (k + 4) u' v') v v1 v2) u v1 v2 := by
  obtain ⟨n, m, A, B, C, aX, aY, pX, pY, pc, qA, qB, qC, xs, ys, hn, hm, rfl, rfl, hD, hA⟩ := I
  have J := @sh_mk (k + 4) n m A B C aX aY pX pY pc qA qB qC xs ys hn hm hD hA
  unfold wpX_point
  refine sh_plX _ (Int32.toInt_toInt64 v1) (Int32.toInt_toInt64 v2) (fun w => ?_) (fun w => ?_)
  · refine br_f (by decide) ?_
    by_cases h8 : n < 8
    · have i1 : vp_in (nI n) 8 := vp_in_nI h8 (by decide)
      have c1 : (nI n).toNatClampNeg = n := nI_clamp (by omega)
      have e1 : 48 + nI n = nI (48 + n) := nI_add 48 n
      have i2 : vp_in (48 + nI n) 56 := by rw [e1]; exact vp_in_nI (by omega) (by decide)
      have c2 : (48 + nI n).toNatClampNeg = 48 + n := by rw [e1]; exact nI_clamp (by omega)
      refine br_t (nI_lt (b := 8) h8 (by decide)) ⟨i1, nm_r (e' := upd aX n v1) (by rw [c1]) ⟨i1, nm_r (e' := upd aY n v2) (by rw [c1]) (nm_r (nI_1 n) ?_)⟩⟩
      refine sh_plY rfl rfl (fun _ => ?_) (fun z => absurd w z)
      refine br_t (nI_lt (b := 8) h8 (by decide)) ⟨i2, nm_r (e' := upd xs (48 + n) v1) (by rw [c2]) ⟨i2, nm_r (e' := upd ys (48 + n) v2) (by rw [c2]) (nm_r (nI_1 n) ?_)⟩⟩
      exact ⟨rfl, sh_mk h8 hm (sh_DrP hD w) (sh_AllP hm hA)⟩
    · have g : ¬ nI n < 8 := nI_nlt (b := 8) (by omega) (by omega)
      refine br_f g ?_
      exact sh_plY rfl rfl (fun _ => br_f g ⟨rfl, J⟩) (fun z => absurd w z)
  · refine br_t rfl ?_
    exact sh_plY rfl rfl (fun z => absurd z w) (fun _ => ⟨rfl, J⟩)
theorem i_vc_clear {k : Nat} {u : SX} {v : SY} (I : i_Rel k u v) (hk : k + 4 ≤ 2048) : wpX_clear (fun r u' => wpY_clear (fun r' v' => r' = r ∧ i_Rel (k + 4) u' v') v) u := by
  obtain ⟨n, m, A, B, C, aX, aY, pX, pY, pc, qA, qB, qC, xs, ys, hn, hm, rfl, rfl, hD, hA⟩ := I
  exact ⟨rfl, sh_mk (n := 0) (by omega) hm (fun k h => absurd h (by omega)) hA⟩
theorem i_vc_plane {k : Nat} {u : SX} {v : SY} (I : i_Rel k u v) (hk : k + 4 ≤ 2048) (v1 : Int32) (v2 : Int32) (v3 : Int32) : wpX_plane (fun r u' => wpY_plane (fun r' v' => r' = r ∧ i_Rel (k + 4) u' v') v v1 v2 v3) u v1 v2 v3 := by
  obtain ⟨n, m, A, B, C, aX, aY, pX, pY, pc, qA, qB, qC, xs, ys, hn, hm, rfl, rfl, hD, hA⟩ := I
  have J := @sh_mk (k + 4) n m A B C aX aY pX pY pc qA qB qC xs ys hn hm hD hA
  refine br_c (fun a => br_t a ⟨rfl, J⟩) (fun a => br_c (fun b => br_f a (br_t b ⟨rfl, J⟩)) (fun b => br_c (fun c => br_f a (br_f b (br_t c ⟨rfl, J⟩))) (fun c => br_c (fun d => ?_) (fun d => br_f a (br_f b (br_f c (br_f d ⟨rfl, J⟩)))))))
  refine br_c (fun e => br_f a (br_f b (br_f c (br_t d (br_t e ⟨rfl, J⟩))))) (fun e => br_c (fun g => br_f a (br_f b (br_f c (br_t d (br_f e (br_t g ⟨rfl, sh_mk hn hm hD hA⟩)))))) (fun g => br_f a (br_f b (br_f c (br_t d (br_f e (br_f g ⟨rfl, J⟩)))))))
theorem i_vc_draw {k : Nat} {u : SX} {v : SY} (I : i_Rel k u v) (hk : k + 4 ≤ 2048) : wpX_draw (fun r u' => wpY_draw (fun r' v' => r' = r ∧ i_Rel (k + 4) u' v') v) u := by
  obtain ⟨n, m, A, B, C, aX, aY, pX, pY, pc, qA, qB, qC, xs, ys, hn, hm, rfl, rfl, hD, hA⟩ := I
  have J := @sh_mk (k + 4) n m A B C aX aY pX pY pc qA qB qC xs ys hn hm hD hA
  by_cases h3 : 3 ≤ n
  · have g3 : (3 : Int32) ≤ nI n := nI_le (a := 3) h3 (by omega)
    by_cases h6 : m < 6
    · have g6 : nI m < 6 := nI_lt (b := 6) h6 (by decide)
      refine br_t g3 (br_t g6 (nm_r (e' := nI (8 * m)) (by rw [Nat.mul_comm]; exact pk_mul m 8) ?_))
      refine sh_drX' _ hn h6 ?_
      refine br_t g3 (br_t g6 ?_)
      refine sh_drY' _ h6 ?_
      exact ⟨rfl, sh_mk hn h6 (sh_DrK h6 (by omega) hD) (sh_AllD h3 hn h6 hD hA)⟩
    · have g6 : ¬ nI m < 6 := nI_nlt (b := 6) (by omega) (by omega)
      exact br_t g3 (br_f g6 (br_t g3 (br_f g6 ⟨rfl, J⟩)))
  · have g3 : ¬ (3 : Int32) ≤ nI n := nI_ge (b := 3) (by omega) (by decide)
    exact br_f g3 (br_f g3 ⟨rfl, J⟩)
theorem i_vc_remove {k : Nat} {u : SX} {v : SY} (I : i_Rel k u v) (hk : k + 4 ≤ 2048) (v1 : Int32) : wpX_remove (fun r u' => wpY_remove (fun r' v' => r' = r ∧ i_Rel (k + 4) u' v') v v1) u v1 := by
  obtain ⟨n, m, A, B, C, aX, aY, pX, pY, pc, qA, qB, qC, xs, ys, hn, hm, rfl, rfl, hD, hA⟩ := I
  have J := @sh_mk (k + 4) n m A B C aX aY pX pY pc qA qB qC xs ys hn hm hD hA
  unfold wpX_remove wpY_remove
  rcases sh_ix2 v1 (n := m) (by omega) with hw | ⟨p, hp, rfl⟩
  · refine sh_dX0 _ hw ?_
    refine br_t rfl ?_
    refine sh_mY1 _ hw ?_
    exact br_f (by decide) ⟨rfl, J⟩
  · obtain ⟨pX', pY', pc', qA', qB', qC', xs', ys', hA', hD', HX, HY⟩ := sh_rmL (dp := nI n) (A := A) (B := B) (C := C) hm (m - p - 1) p pX pY pc qA qB qC xs ys (by omega) hA hD
    refine sh_dX1 _ hm hp ?_
    refine br_f (by decide) ⟨_, HX _ ?_⟩
    refine sh_mY0 _ hm hp ?_
    refine br_t rfl ⟨_, HY _ ?_⟩
    exact ⟨rfl, sh_mk hn (by omega) hD' (sh_AllM (by omega) hA')⟩
theorem i_vc_shift {k : Nat} {u : SX} {v : SY} (I : i_Rel k u v) (hk : k + 4 ≤ 2048) (v1 : Int32) (v2 : Int32) (v3 : Int32) : wpX_shift (fun r u' => wpY_shift (fun r' v' => r' = r ∧ i_Rel (k + 4) u' v') v v1 v2 v3) u v1 v2 v3 := by
  obtain ⟨n, m, A, B, C, aX, aY, pX, pY, pc, qA, qB, qC, xs, ys, hn, hm, rfl, rfl, hD, hA⟩ := I
  have J := @sh_mk (k + 4) n m A B C aX aY pX pY pc qA qB qC xs ys hn hm hD hA
  unfold wpX_shift wpY_shift
  rcases sh_ix2 v1 (n := m) (by omega) with hw | ⟨p, hp, rfl⟩
  · refine sh_dX0 _ hw ?_
    refine br_t rfl ?_
    refine sh_mY1 _ hw ?_
    exact br_f (by decide) ⟨rfl, J⟩
  · obtain ⟨c, hc3, hc8, hc, hP⟩ := hA p hp
    refine sh_dX1 _ hm hp ?_
    refine br_f (by decide) ?_
    unfold wpX_staysInside
    refine nm_r (e' := nI (8 * p)) (by rw [Nat.mul_comm]; exact pk_mul p 8) ⟨c + 1, ?_⟩
    refine sh_siX _ (by omega) hc8 hc c 0 (by omega) (fun H => ?_) (fun H => ?_)
    · obtain ⟨a, b, ha, hb, e1, e2, _, _⟩ := hP 0 (by omega)
      obtain ⟨g1, g2, g3, g4⟩ := H 0 (by omega) (by omega)
      rw [e1, nI_toInt (by omega)] at g1 g2
      rw [e2, nI_toInt (by omega)] at g3 g4
      have hx : -24 ≤ v2.toInt ∧ v2.toInt ≤ 24 := by omega
      have hy : -12 ≤ v3.toInt ∧ v3.toInt ≤ 12 := by omega
      refine br_f (by decide) (nm_r (e' := nI (8 * p)) (by rw [Nat.mul_comm]; exact pk_mul p 8) ?_)
      refine sh_shX' _ (by omega) hc8 hc ?_
      refine sh_mY0 _ hm hp ?_
      refine br_t rfl ?_
      refine sh_rgY rfl rfl (fun _ => ⟨c + 1, ?_⟩) (fun z => absurd ⟨hx.1, hx.2, hy.1, hy.2⟩ z)
      refine sh_siY _ (by omega) hc8 hc hx hy hP c 0 (by omega) (fun _ => ?_) (fun Z => absurd H Z)
      refine sh_shY' _ (by omega) hc8 hc ?_
      exact ⟨rfl, sh_mk hn hm (sh_DrK (by omega) hc8 hD) (sh_AllS hp hc hc8 hx hy H hA)⟩
    · refine br_t rfl ?_
      refine sh_mY0 _ hm hp ?_
      refine br_t rfl ?_
      refine sh_rgY rfl rfl (fun w => ⟨c + 1, ?_⟩) (fun _ => ⟨rfl, J⟩)
      exact sh_siY _ (by omega) hc8 hc ⟨w.1, w.2.1⟩ ⟨w.2.2.1, w.2.2.2⟩ hP c 0 (by omega) (fun Z => absurd Z H) (fun _ => ⟨rfl, J⟩)
theorem i_vc_tilt {k : Nat} {u : SX} {v : SY} (I : i_Rel k u v) (hk : k + 4 ≤ 2048) (v1 : Int32) : wpX_tilt (fun r u' => wpY_tilt (fun r' v' => r' = r ∧ i_Rel (k + 4) u' v') v v1) u v1 := by
  obtain ⟨n, m, A, B, C, aX, aY, pX, pY, pc, qA, qB, qC, xs, ys, hn, hm, rfl, rfl, hD, hA⟩ := I
  have J := @sh_mk (k + 4) n m A B C aX aY pX pY pc qA qB qC xs ys hn hm hD hA
  unfold wpX_tilt wpY_tilt
  rcases sh_ix2 v1 (n := m) (by omega) with hw | ⟨p, hp, rfl⟩
  · refine sh_dX0 _ hw ?_
    refine br_t rfl ?_
    refine sh_mY1 _ hw ?_
    exact br_f (by decide) ⟨rfl, J⟩
  · refine sh_dX1 _ hm hp ?_
    refine br_f (by decide) ?_
    refine sh_tdX _ (by omega) ?_
    refine sh_mY0 _ hm hp ?_
    refine br_t rfl ?_
    refine sh_tdY _ (by omega) ?_
    exact ⟨rfl, sh_mk hn hm hD hA⟩
theorem i_vc_drawn {k : Nat} {u : SX} {v : SY} (I : i_Rel k u v) (hk : k + 4 ≤ 2048) : wpX_drawn (fun r => wpY_drawn (fun r' => r' = r ∧ i_Rel (k + 4) u v) v) u := by
  obtain ⟨n, m, A, B, C, aX, aY, pX, pY, pc, qA, qB, qC, xs, ys, hn, hm, rfl, rfl, hD, hA⟩ := I
  exact ⟨rfl, sh_mk hn hm hD hA⟩
theorem i_vc_owner {k : Nat} {u : SX} {v : SY} (I : i_Rel k u v) (hk : k + 4 ≤ 2048) (v1 : Int32) (v2 : Int32) : wpX_owner (fun r => wpY_owner (fun r' => r' = r ∧ i_Rel (k + 4) u v) v v1 v2) u v1 v2 := by
  obtain ⟨n, m, A, B, C, aX, aY, pX, pY, pc, qA, qB, qC, xs, ys, hn, hm, rfl, rfl, hD, hA⟩ := I
  obtain ⟨f, hO⟩ := sh_own (dp := nI n) (A := A) (B := B) (C := C) (aX := aX) (aY := aY) (qA := qA) (qB := qB) (qC := qC) hm hA
  obtain ⟨r, HX, HY⟩ := sh_m_owner hO v1 v2
  exact HX _ (HY _ ⟨rfl, sh_mk hn hm hD hA⟩)
theorem i_vc_depthAt {k : Nat} {u : SX} {v : SY} (I : i_Rel k u v) (hk : k + 4 ≤ 2048) (v1 : Int32) (v2 : Int32) : wpX_depthAt (fun r => wpY_depthAt (fun r' => r' = r ∧ i_Rel (k + 4) u v) v v1 v2) u v1 v2 := by
  obtain ⟨n, m, A, B, C, aX, aY, pX, pY, pc, qA, qB, qC, xs, ys, hn, hm, rfl, rfl, hD, hA⟩ := I
  obtain ⟨f, hO⟩ := sh_own (dp := nI n) (A := A) (B := B) (C := C) (aX := aX) (aY := aY) (qA := qA) (qB := qB) (qC := qC) hm hA
  obtain ⟨r, HX, HY⟩ := sh_m_depthAt hO v1 v2
  exact HX _ (HY _ ⟨rfl, sh_mk hn hm hD hA⟩)
theorem i_vc_covers {k : Nat} {u : SX} {v : SY} (I : i_Rel k u v) (hk : k + 4 ≤ 2048) (v1 : Int32) (v2 : Int32) (v3 : Int32) : wpX_covers (fun r => wpY_covers (fun r' => r' = r ∧ i_Rel (k + 4) u v) v v1 v2 v3) u v1 v2 v3 := by
  obtain ⟨n, m, A, B, C, aX, aY, pX, pY, pc, qA, qB, qC, xs, ys, hn, hm, rfl, rfl, hD, hA⟩ := I
  obtain ⟨r, HX, HY⟩ := sh_m_covers (dp := nI n) (A := A) (B := B) (C := C) (aX := aX) (aY := aY) (qA := qA) (qB := qB) (qC := qC) hm hA v1 v2 v3
  exact HX _ (HY _ ⟨rfl, sh_mk hn hm hD hA⟩)
theorem i_vc_spans {k : Nat} {u : SX} {v : SY} (I : i_Rel k u v) (hk : k + 4 ≤ 2048) (v1 : Int32) : wpX_spans (fun r => wpY_spans (fun r' => r' = r ∧ i_Rel (k + 4) u v) v v1) u v1 := by
  obtain ⟨n, m, A, B, C, aX, aY, pX, pY, pc, qA, qB, qC, xs, ys, hn, hm, rfl, rfl, hD, hA⟩ := I
  obtain ⟨f, hO⟩ := sh_own (dp := nI n) (A := A) (B := B) (C := C) (aX := aX) (aY := aY) (qA := qA) (qB := qB) (qC := qC) hm hA
  obtain ⟨r, HX, HY⟩ := sh_m_spans hO v1
  exact HX _ (HY _ ⟨rfl, sh_mk hn hm hD hA⟩)
theorem i_vc_spanStart {k : Nat} {u : SX} {v : SY} (I : i_Rel k u v) (hk : k + 4 ≤ 2048) (v1 : Int32) (v2 : Int32) : wpX_spanStart (fun r => wpY_spanStart (fun r' => r' = r ∧ i_Rel (k + 4) u v) v v1 v2) u v1 v2 := by
  obtain ⟨n, m, A, B, C, aX, aY, pX, pY, pc, qA, qB, qC, xs, ys, hn, hm, rfl, rfl, hD, hA⟩ := I
  obtain ⟨f, hO⟩ := sh_own (dp := nI n) (A := A) (B := B) (C := C) (aX := aX) (aY := aY) (qA := qA) (qB := qB) (qC := qC) hm hA
  obtain ⟨r, HX, HY⟩ := sh_m_spanStart hO v1 v2
  exact HX _ (HY _ ⟨rfl, sh_mk hn hm hD hA⟩)
theorem i_vc_spanOwner {k : Nat} {u : SX} {v : SY} (I : i_Rel k u v) (hk : k + 4 ≤ 2048) (v1 : Int32) (v2 : Int32) : wpX_spanOwner (fun r => wpY_spanOwner (fun r' => r' = r ∧ i_Rel (k + 4) u v) v v1 v2) u v1 v2 := by
  obtain ⟨n, m, A, B, C, aX, aY, pX, pY, pc, qA, qB, qC, xs, ys, hn, hm, rfl, rfl, hD, hA⟩ := I
  obtain ⟨f, hO⟩ := sh_own (dp := nI n) (A := A) (B := B) (C := C) (aX := aX) (aY := aY) (qA := qA) (qB := qB) (qC := qC) hm hA
  obtain ⟨r, HX, HY⟩ := sh_m_spanOwner hO v1 v2
  exact HX _ (HY _ ⟨rfl, sh_mk hn hm hD hA⟩)
theorem i_vc_owned {k : Nat} {u : SX} {v : SY} (I : i_Rel k u v) (hk : k + 4 ≤ 2048) (v1 : Int32) : wpX_owned (fun r => wpY_owned (fun r' => r' = r ∧ i_Rel (k + 4) u v) v v1) u v1 := by
  obtain ⟨n, m, A, B, C, aX, aY, pX, pY, pc, qA, qB, qC, xs, ys, hn, hm, rfl, rfl, hD, hA⟩ := I
  obtain ⟨f, hO⟩ := sh_own (dp := nI n) (A := A) (B := B) (C := C) (aX := aX) (aY := aY) (qA := qA) (qB := qB) (qC := qC) hm hA
  obtain ⟨r, HX, HY⟩ := sh_m_owned hm hO v1
  exact HX _ (HY _ ⟨rfl, sh_mk hn hm hD hA⟩)
theorem i_vc_covered {k : Nat} {u : SX} {v : SY} (I : i_Rel k u v) (hk : k + 4 ≤ 2048) (v1 : Int32) : wpX_covered (fun r => wpY_covered (fun r' => r' = r ∧ i_Rel (k + 4) u v) v v1) u v1 := by
  obtain ⟨n, m, A, B, C, aX, aY, pX, pY, pc, qA, qB, qC, xs, ys, hn, hm, rfl, rfl, hD, hA⟩ := I
  obtain ⟨r, HX, HY⟩ := sh_m_covered (dp := nI n) (A := A) (B := B) (C := C) (aX := aX) (aY := aY) (qA := qA) (qB := qB) (qC := qC) hm hA v1
  exact HX _ (HY _ ⟨rfl, sh_mk hn hm hD hA⟩)
theorem i_vc_lit {k : Nat} {u : SX} {v : SY} (I : i_Rel k u v) (hk : k + 4 ≤ 2048) : wpX_lit (fun r => wpY_lit (fun r' => r' = r ∧ i_Rel (k + 4) u v) v) u := by
  obtain ⟨n, m, A, B, C, aX, aY, pX, pY, pc, qA, qB, qC, xs, ys, hn, hm, rfl, rfl, hD, hA⟩ := I
  obtain ⟨f, hO⟩ := sh_own (dp := nI n) (A := A) (B := B) (C := C) (aX := aX) (aY := aY) (qA := qA) (qB := qB) (qC := qC) hm hA
  obtain ⟨r, HX, HY⟩ := sh_m_lit hO
  exact HX _ (HY _ ⟨rfl, sh_mk hn hm hD hA⟩)
theorem i_vc_seams {k : Nat} {u : SX} {v : SY} (I : i_Rel k u v) (hk : k + 4 ≤ 2048) : wpX_seams (fun r => wpY_seams (fun r' => r' = r ∧ i_Rel (k + 4) u v) v) u := by
  obtain ⟨n, m, A, B, C, aX, aY, pX, pY, pc, qA, qB, qC, xs, ys, hn, hm, rfl, rfl, hD, hA⟩ := I
  obtain ⟨f, hO⟩ := sh_own (dp := nI n) (A := A) (B := B) (C := C) (aX := aX) (aY := aY) (qA := qA) (qB := qB) (qC := qC) hm hA
  obtain ⟨r, HX, HY⟩ := sh_m_seams hO
  exact HX _ (HY _ ⟨rfl, sh_mk hn hm hD hA⟩)
end
