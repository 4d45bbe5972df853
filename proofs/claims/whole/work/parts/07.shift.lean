/-! places, and shift -/
theorem sh_64 (x : Int32) (y : Int32) : (x.toInt64 + y.toInt64).toInt = x.toInt + y.toInt := by
  have h1 := x.toInt_lt
  have h2 := x.le_toInt
  have h3 := y.toInt_lt
  have h4 := y.le_toInt
  rw [Int64.toInt_add, Int32.toInt_toInt64, Int32.toInt_toInt64]
  exact Int.bmod_eq_of_le (by omega) (by omega)
theorem sh_plX (post : Int32 → Prop) {P Q : Int64} {x y : Int} (hx : P.toInt = x) (hy : Q.toInt = y) (h1 : (0 ≤ x ∧ x ≤ 24 ∧ 0 ≤ y ∧ y ≤ 12) → post 1) (h0 : ¬ (0 ≤ x ∧ x ≤ 24 ∧ 0 ≤ y ∧ y ≤ 12) → post 0) : wpX_isPlace post P Q := by
  have l0 : (0 : Int64).toInt = 0 := by decide
  have l1 : (24 : Int64).toInt = 24 := by decide
  have l2 : (12 : Int64).toInt = 12 := by decide
  refine br_c (fun z => h0 ?_) (fun z => br_c (fun w => h0 ?_) (fun w => br_c (fun s => h0 ?_) (fun s => br_c (fun t => h0 ?_) (fun t => h1 ?_))))
  · rw [Int64.lt_iff_toInt_lt] at z; omega
  · rw [Int64.lt_iff_toInt_lt] at w; omega
  · rw [Int64.lt_iff_toInt_lt] at s; omega
  · rw [Int64.lt_iff_toInt_lt] at t; omega
  · rw [Int64.lt_iff_toInt_lt] at z w s t; omega
theorem sh_plY {T F : Prop} {P Q : Int32} {x y : Int} (hx : P.toInt = x) (hy : Q.toInt = y) (h1 : (0 ≤ x ∧ x ≤ 24 ∧ 0 ≤ y ∧ y ≤ 12) → T) (h0 : ¬ (0 ≤ x ∧ x ≤ 24 ∧ 0 ≤ y ∧ y ≤ 12) → F) :
    (P < 0 → F) ∧ (¬ P < 0 → ((24 < P → F) ∧ (¬ 24 < P → ((Q < 0 → F) ∧ (¬ Q < 0 → ((Q ≤ 12 → T) ∧ (¬ Q ≤ 12 → F))))))) := by
  have l0 : (0 : Int32).toInt = 0 := by decide
  have l1 : (24 : Int32).toInt = 24 := by decide
  have l2 : (12 : Int32).toInt = 12 := by decide
  refine br_c (fun z => h0 ?_) (fun z => br_c (fun w => h0 ?_) (fun w => br_c (fun s => h0 ?_) (fun s => br_c (fun t => h1 ?_) (fun t => h0 ?_))))
  · rw [Int32.lt_iff_toInt_lt] at z; omega
  · rw [Int32.lt_iff_toInt_lt] at w; omega
  · rw [Int32.lt_iff_toInt_lt] at s; omega
  · rw [Int32.lt_iff_toInt_lt] at z w s
    rw [Int32.le_iff_toInt_le] at t; omega
  · rw [Int32.le_iff_toInt_le] at t; omega
theorem sh_rgY {T F : Prop} {P Q : Int32} {x y : Int} (hx : P.toInt = x) (hy : Q.toInt = y) (h1 : (-24 ≤ x ∧ x ≤ 24 ∧ -12 ≤ y ∧ y ≤ 12) → T) (h0 : ¬ (-24 ≤ x ∧ x ≤ 24 ∧ -12 ≤ y ∧ y ≤ 12) → F) :
    (P < (-24) → F) ∧ (¬ P < (-24) → ((24 < P → F) ∧ (¬ 24 < P → ((Q < (-12) → F) ∧ (¬ Q < (-12) → ((Q ≤ 12 → T) ∧ (¬ Q ≤ 12 → F))))))) := by
  have l0 : (-24 : Int32).toInt = -24 := by decide
  have l1 : (24 : Int32).toInt = 24 := by decide
  have l2 : (12 : Int32).toInt = 12 := by decide
  have l3 : (-12 : Int32).toInt = -12 := by decide
  refine br_c (fun z => h0 ?_) (fun z => br_c (fun w => h0 ?_) (fun w => br_c (fun s => h0 ?_) (fun s => br_c (fun t => h1 ?_) (fun t => h0 ?_))))
  · rw [Int32.lt_iff_toInt_lt] at z; omega
  · rw [Int32.lt_iff_toInt_lt] at w; omega
  · rw [Int32.lt_iff_toInt_lt] at s; omega
  · rw [Int32.lt_iff_toInt_lt] at z w s
    rw [Int32.le_iff_toInt_le] at t; omega
  · rw [Int32.le_iff_toInt_le] at t; omega
/-- point o + k lies within the window when it is moved by x, y -/
def sh_In (pX pY : Nat → Int32) (o : Nat) (x y : Int) (k : Nat) : Prop := 0 ≤ (pX (o + k)).toInt + x ∧ (pX (o + k)).toInt + x ≤ 24 ∧ 0 ≤ (pY (o + k)).toInt + y ∧ (pY (o + k)).toInt + y ≤ 12
theorem sh_add {a : Nat} {v : Int32} (ha : a ≤ 24) (hv : -24 ≤ v.toInt ∧ v.toInt ≤ 24) : (nI a + v).toInt = (nI a).toInt + v.toInt := by
  have h := nI_toInt (n := a) (by omega)
  exact sh_addT rfl rfl (by omega) (by omega)
section
variable {dp A B C pg : Int32} {aX aY pX pY pc qA qB qC xs ys : Nat → Int32}
theorem sh_siX (post : Int32 → Prop) {p c : Nat} {x y : Int32} (hp : p < 6) (hc : c ≤ 8) (hn : pc p = nI c) : ∀ d k : Nat, k + d = c →
    ((∀ k', k ≤ k' → k' < c → sh_In pX pY (8 * p) x.toInt y.toInt k') → post 1) → (¬ (∀ k', k ≤ k' → k' < c → sh_In pX pY (8 * p) x.toInt y.toInt k') → post 0) →
    wX_staysInside_9 post (nI p) x.toInt64 y.toInt64 (nI (8 * p)) dp A B C pg aX aY pX pY pc qA qB qC (d + 1) (nI k) := by
  have j1 : vp_in (nI p) 6 := vp_in_nI hp (by decide)
  have d1 : (nI p).toNatClampNeg = p := nI_clamp (by omega)
  intro d
  induction d with
  | zero =>
    intro k hk h1 h0
    exact ⟨j1, br_t (by rw [d1, hn]; exact nI_le (by omega) (by omega)) (h1 (fun k' _ _ => absurd hk (by omega)))⟩
  | succ d ih =>
    intro k hk h1 h0
    have i1 : vp_in (nI (8 * p) + nI k) 48 := by rw [nI_add]; exact vp_in_nI (by omega) (by decide)
    have c1 : (nI (8 * p) + nI k).toNatClampNeg = 8 * p + k := by rw [nI_add]; exact nI_clamp (by omega)
    refine ⟨j1, br_f (by rw [d1, hn]; exact nI_ge (by omega) (by omega)) ⟨i1, i1, ?_⟩⟩
    refine sh_plX _ (sh_64 _ _) (sh_64 _ _) ?_ ?_
    · intro w
      rw [c1] at w
      refine br_f (by decide) (nm_r (nI_1 k) (ih (k + 1) (by omega) (fun H => h1 (fun k' a b => ?_)) (fun H => h0 (fun Z => H (fun k' a b => Z k' (by omega) b)))))
      by_cases e : k' = k
      · subst e; exact w
      · exact H k' (by omega) b
    · intro w
      rw [c1] at w
      exact br_t rfl (h0 (fun Z => w (Z k (by omega) (by omega))))
theorem sh_siY (post : Int32 → SY → Prop) {p c : Nat} {x y : Int32} (hp : p < 6) (hc : c ≤ 8) (hn : pc p = nI c) (hx : -24 ≤ x.toInt ∧ x.toInt ≤ 24) (hy : -12 ≤ y.toInt ∧ y.toInt ≤ 12)
    (hP : ∀ k, k < c → sh_Pt (pX (8 * p + k)) (pY (8 * p + k)) (xs (8 * p + k)) (ys (8 * p + k))) : ∀ d k : Nat, k + d = c →
    ((∀ k', k ≤ k' → k' < c → sh_In pX pY (8 * p) x.toInt y.toInt k') → ∃ n126 : Nat, wY_shift_126 post (nI p) x y dp A B C pg n126 0 xs ys pc qA qB qC) → (¬ (∀ k', k ≤ k' → k' < c → sh_In pX pY (8 * p) x.toInt y.toInt k') → post (-2) (dp, A, B, C, pg, xs, ys, pc, qA, qB, qC)) →
    wY_shift_40 post (nI p) x y dp A B C pg xs ys pc qA qB qC (d + 1) (nI k) := by
  have j1 : vp_in (nI p) 6 := vp_in_nI hp (by decide)
  have d1 : (nI p).toNatClampNeg = p := nI_clamp (by omega)
  intro d
  induction d with
  | zero =>
    intro k hk h1 h0
    exact ⟨j1, br_t (by rw [d1, hn]; exact nI_le (by omega) (by omega)) (h1 (fun k' _ _ => absurd hk (by omega)))⟩
  | succ d ih =>
    intro k hk h1 h0
    have w2 : 8 * nI p + nI k = nI (8 * p + k) := by
      have e : 8 * nI p = nI (8 * p) := pk_mul 8 p
      rw [e, nI_add]
    have i1 : vp_in (8 * nI p + nI k) 56 := by rw [w2]; exact vp_in_nI (by omega) (by decide)
    have c1 : (8 * nI p + nI k).toNatClampNeg = 8 * p + k := by rw [w2]; exact nI_clamp (by omega)
    obtain ⟨a, b, ha, hb, e1, e2, f1, f2⟩ := hP k (by omega)
    have t1 : (nI a + x).toInt = (pX (8 * p + k)).toInt + x.toInt := by rw [e1]; exact sh_add ha hx
    have t2 : (nI b + y).toInt = (pY (8 * p + k)).toInt + y.toInt := by rw [e2]; exact sh_add (by omega) (by omega)
    refine ⟨j1, br_f (by rw [d1, hn]; exact nI_ge (by omega) (by omega)) (br_f (nI_ge (b := 8) (by omega) (by decide)) ⟨i1, nm_r (e' := nI a + x) (by rw [c1, f1]) ⟨i1, nm_r (e' := nI b + y) (by rw [c1, f2]) ?_⟩⟩)⟩
    refine sh_plY t1 t2 ?_ ?_
    · intro w
      refine nm_r (nI_1 k) (ih (k + 1) (by omega) (fun H => h1 (fun k' a b => ?_)) (fun H => h0 (fun Z => H (fun k' a b => Z k' (by omega) b))))
      by_cases e : k' = k
      · subst e; exact w
      · exact H k' (by omega) b
    · intro w
      exact h0 (fun Z => w (Z k (by omega) (by omega)))
theorem sh_shX (post : Int32 → SX → Prop) {p c : Nat} {x y : Int32} (hp : p < 6) (hc : c ≤ 8) (hn : pc p = nI c)
    (h : post 0 (dp, A, B, C, pg, aX, aY, sh_ov pX (fun j => pX j + x) (8 * p) c, sh_ov pY (fun j => pY j + y) (8 * p) c, pc, qA, qB, qC)) :
    ∀ d k : Nat, k + d = c → wX_shift_34 post (nI p) x y (nI (8 * p)) dp A B C pg (d + 1) (nI k) aX aY (sh_ov pX (fun j => pX j + x) (8 * p) k) (sh_ov pY (fun j => pY j + y) (8 * p) k) pc qA qB qC := by
  have j1 : vp_in (nI p) 6 := vp_in_nI hp (by decide)
  have d1 : (nI p).toNatClampNeg = p := nI_clamp (by omega)
  intro d
  induction d with
  | zero =>
    intro k hk
    have e : k = c := by omega
    subst e
    exact ⟨j1, br_t (by rw [d1, hn]; exact nI_le (by omega) (by omega)) h⟩
  | succ d ih =>
    intro k hk
    have i1 : vp_in (nI (8 * p) + nI k) 48 := by rw [nI_add]; exact vp_in_nI (by omega) (by decide)
    have c1 : (nI (8 * p) + nI k).toNatClampNeg = 8 * p + k := by rw [nI_add]; exact nI_clamp (by omega)
    refine ⟨j1, br_f (by rw [d1, hn]; exact nI_ge (by omega) (by omega)) ⟨i1, i1, nm_r (e' := sh_ov pX (fun j => pX j + x) (8 * p) (k + 1)) ?_ ⟨i1, i1, nm_r (e' := sh_ov pY (fun j => pY j + y) (8 * p) (k + 1)) ?_ (nm_r (nI_1 k) (ih (k + 1) (by omega)))⟩⟩⟩
    · rw [c1]
      exact sh_ov_s (by rw [sh_ov_out (by omega)])
    · rw [c1]
      exact sh_ov_s (by rw [sh_ov_out (by omega)])
theorem sh_shY (post : Int32 → SY → Prop) {p c : Nat} {x y : Int32} (hp : p < 6) (hc : c ≤ 8) (hn : pc p = nI c)
    (h : post 0 (dp, A, B, C, pg, sh_ov xs (fun j => xs j + x) (8 * p) c, sh_ov ys (fun j => ys j + y) (8 * p) c, pc, qA, qB, qC)) :
    ∀ d k : Nat, k + d = c → wY_shift_126 post (nI p) x y dp A B C pg (d + 1) (nI k) (sh_ov xs (fun j => xs j + x) (8 * p) k) (sh_ov ys (fun j => ys j + y) (8 * p) k) pc qA qB qC := by
  have j1 : vp_in (nI p) 6 := vp_in_nI hp (by decide)
  have d1 : (nI p).toNatClampNeg = p := nI_clamp (by omega)
  intro d
  induction d with
  | zero =>
    intro k hk
    have e : k = c := by omega
    subst e
    exact ⟨j1, br_t (by rw [d1, hn]; exact nI_le (by omega) (by omega)) h⟩
  | succ d ih =>
    intro k hk
    have w2 : 8 * nI p + nI k = nI (8 * p + k) := by
      have e : 8 * nI p = nI (8 * p) := pk_mul 8 p
      rw [e, nI_add]
    have i1 : vp_in (8 * nI p + nI k) 56 := by rw [w2]; exact vp_in_nI (by omega) (by decide)
    have c1 : (8 * nI p + nI k).toNatClampNeg = 8 * p + k := by rw [w2]; exact nI_clamp (by omega)
    refine ⟨j1, br_f (by rw [d1, hn]; exact nI_ge (by omega) (by omega)) (br_f (nI_ge (b := 8) (by omega) (by decide)) ⟨i1, i1, nm_r (e' := sh_ov xs (fun j => xs j + x) (8 * p) (k + 1)) ?_ ⟨i1, i1, nm_r (e' := sh_ov ys (fun j => ys j + y) (8 * p) (k + 1)) ?_ (nm_r (nI_1 k) (ih (k + 1) (by omega)))⟩⟩)⟩
    · rw [c1]
      exact sh_ov_s (by rw [sh_ov_out (by omega)])
    · rw [c1]
      exact sh_ov_s (by rw [sh_ov_out (by omega)])
theorem sh_mv {a : Nat} {M : Int} {v : Int32} (ha : a ≤ 24) (hM : M ≤ 24) (hv : -24 ≤ v.toInt ∧ v.toInt ≤ 24) (h0 : 0 ≤ (nI a).toInt + v.toInt) (h1 : (nI a).toInt + v.toInt ≤ M) : ∃ b : Nat, (b : Int) ≤ M ∧ nI a + v = nI b := by
  have t := sh_add ha hv
  have w := nI_toInt (n := a) (by omega)
  rw [w] at t h0 h1
  refine ⟨((a : Int) + v.toInt).toNat, by omega, Int32.toInt_inj.mp ?_⟩
  rw [t, nI_toInt (n := ((a : Int) + v.toInt).toNat) (by omega)]
  omega
theorem sh_AllS {m p c : Nat} {x y : Int32} (hp : p < m) (hn : pc p = nI c) (hc : c ≤ 8) (hx : -24 ≤ x.toInt ∧ x.toInt ≤ 24) (hy : -12 ≤ y.toInt ∧ y.toInt ≤ 12)
    (hI : ∀ k', 0 ≤ k' → k' < c → sh_In pX pY (8 * p) x.toInt y.toInt k') (hA : sh_All m pX pY xs ys pc) :
    sh_All m (sh_ov pX (fun j => pX j + x) (8 * p) c) (sh_ov pY (fun j => pY j + y) (8 * p) c) (sh_ov xs (fun j => xs j + x) (8 * p) c) (sh_ov ys (fun j => ys j + y) (8 * p) c) pc := by
  intro t ht
  obtain ⟨e, h1, h2, h3, h4⟩ := hA t ht
  refine ⟨e, h1, h2, h3, fun k hk => ?_⟩
  obtain ⟨a, b, ha, hb, e1, e2, f1, f2⟩ := h4 k hk
  by_cases q : t = p
  · subst q
    have ec : e = c := (nI_eq (by omega) (by omega)).mp (h3.symm.trans hn)
    subst ec
    rw [sh_ov_in (by omega) (by omega), sh_ov_in (by omega) (by omega), sh_ov_in (by omega) (by omega), sh_ov_in (by omega) (by omega)]
    show sh_Pt (pX (8 * t + k) + x) (pY (8 * t + k) + y) (xs (8 * t + k) + x) (ys (8 * t + k) + y)
    obtain ⟨g1, g2, g3, g4⟩ := hI k (by omega) hk
    rw [e1] at g1 g2
    rw [e2] at g3 g4
    obtain ⟨a', ha', ea⟩ := sh_mv ha (by omega) hx g1 g2
    obtain ⟨b', hb', eb⟩ := sh_mv (a := b) (by omega) (by omega) (by omega) g3 g4
    rw [e1, e2, f1, f2, ea, eb]
    exact ⟨a', b', by omega, by omega, rfl, rfl, rfl, rfl⟩
  · rw [sh_ov_out (by omega), sh_ov_out (by omega), sh_ov_out (by omega), sh_ov_out (by omega)]
    exact ⟨a, b, ha, hb, e1, e2, f1, f2⟩
end
