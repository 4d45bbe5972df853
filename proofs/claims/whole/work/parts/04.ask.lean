/-! the owner as a function of the pixel, and the questions' loops over it -/
def sh_O (u : SX) (v : SY) (f : Nat → Nat → Option Nat) : Prop := ∀ i j : Nat, i < 24 → j < 12 → (∀ q, f i j = some q → q < 6) ∧
  (∀ post : Int32 → Prop, post (sh_x (f i j)) → wpX_ownerOf post u (nI i) (nI j)) ∧ (∀ post : Int32 → Prop, post (sh_y (f i j)) → wpY_ownerOf post v (nI i) (nI j))
theorem sh_Ok {u : SX} {v : SY} {f : Nat → Nat → Option Nat} (h : sh_O u v f) {i j : Nat} (hi : i < 24) (hj : j < 12) : sh_ok (f i j) := fun q e => by
  have := (h i j hi hj).1 q e
  omega
theorem sh_ix (x : Int32) {n : Nat} (hn : n < 2 ^ 31) : x < 0 ∨ (¬ x < 0 ∧ nI n ≤ x) ∨ ∃ j : Nat, j < n ∧ x = nI j := by
  by_cases h : x < 0
  · exact Or.inl h
  · obtain ⟨j, hj, rfl⟩ := nI_of h
    by_cases h2 : j < n
    · exact Or.inr (Or.inr ⟨j, h2, rfl⟩)
    · exact Or.inr (Or.inl ⟨h, nI_le (by omega) hj⟩)
theorem sh_nle {x a b : Int32} (h : a ≤ x) (hab : b < a) : ¬ x ≤ b := by
  rw [Int32.le_iff_toInt_le] at *
  rw [Int32.lt_iff_toInt_lt] at hab
  omega
section
variable {dp A B C pg : Int32} {aX aY pX pY pc qA qB qC xs ys : Nat → Int32}
theorem sh_own {m : Nat} (hm : m ≤ 6) (hA : sh_All m pX pY xs ys pc) : ∃ f : Nat → Nat → Option Nat, sh_O (dp, A, B, C, nI m, aX, aY, pX, pY, pc, qA, qB, qC) (dp, A, B, C, nI m, xs, ys, pc, qA, qB, qC) f := by
  have h : ∀ x : Nat × Nat, ∃ r : Option Nat, x.1 < 24 → x.2 < 12 → ((∀ q, r = some q → q < 6) ∧
      (∀ post : Int32 → Prop, post (sh_x r) → wpX_ownerOf post (dp, A, B, C, nI m, aX, aY, pX, pY, pc, qA, qB, qC) (nI x.1) (nI x.2)) ∧
      (∀ post : Int32 → Prop, post (sh_y r) → wpY_ownerOf post (dp, A, B, C, nI m, xs, ys, pc, qA, qB, qC) (nI x.1) (nI x.2))) := by
    intro x
    by_cases hx : x.1 < 24 ∧ x.2 < 12
    · obtain ⟨r, hr, HX, HY⟩ := sh_own1 dp A B C aX aY pX pY pc qA qB qC xs ys hm hx.1 hx.2 hA
      exact ⟨r, fun _ _ => ⟨fun q e => Nat.lt_of_lt_of_le (hr q e) hm, HX, HY⟩⟩
    · exact ⟨none, fun h1 h2 => absurd ⟨h1, h2⟩ hx⟩
  obtain ⟨g, hg⟩ := Classical.axiomOfChoice h
  exact ⟨fun i j => g (i, j), fun i j hi hj => hg (i, j) hi hj⟩
/-! rows, pixels, drawn -/
theorem sh_rX1 (post : Int32 → Prop) {j : Nat} (hj : j < 12) (h : post 1) : wpX_isRow post (nI j) := br_f (nI_pos (by omega)) (br_f (nI_ge (b := 12) hj (by decide)) h)
theorem sh_rX0 (post : Int32 → Prop) {x : Int32} (hx : x < 0 ∨ (¬ x < 0 ∧ nI 12 ≤ x)) (h : post 0) : wpX_isRow post x := by
  rcases hx with z | ⟨z, w⟩
  · exact br_t z h
  · exact br_f z (br_t w h)
theorem sh_rY0 (post : Int32 → Prop) {j : Nat} (hj : j < 12) (h : post 0) : wpY_badRow post (dp, A, B, C, pg, xs, ys, pc, qA, qB, qC) (nI j) := br_f (nI_pos (by omega)) (br_t (nI_le (b := 11) (by omega) (by decide)) h)
theorem sh_rY1 (post : Int32 → Prop) {x : Int32} (hx : x < 0 ∨ (¬ x < 0 ∧ nI 12 ≤ x)) (h : post 1) : wpY_badRow post (dp, A, B, C, pg, xs, ys, pc, qA, qB, qC) x := by
  rcases hx with z | ⟨z, w⟩
  · exact br_t z h
  · exact br_f z (br_f (sh_nle w (by decide)) h)
theorem sh_cY0 (post : Int32 → Prop) {i : Nat} (hi : i < 24) (h : post 0) : wpY_badColumn post (dp, A, B, C, pg, xs, ys, pc, qA, qB, qC) (nI i) := br_f (nI_pos (by omega)) (br_t (nI_le (b := 23) (by omega) (by decide)) h)
theorem sh_cY1 (post : Int32 → Prop) {x : Int32} (hx : x < 0 ∨ (¬ x < 0 ∧ nI 24 ≤ x)) (h : post 1) : wpY_badColumn post (dp, A, B, C, pg, xs, ys, pc, qA, qB, qC) x := by
  rcases hx with z | ⟨z, w⟩
  · exact br_t z h
  · exact br_f z (br_f (sh_nle w (by decide)) h)
theorem sh_pX1 (post : Int32 → Prop) {i j : Nat} (hi : i < 24) (hj : j < 12) (h : post 1) : wpX_isPixel post (nI i) (nI j) :=
  br_f (nI_pos (by omega)) (br_f (nI_ge (b := 24) hi (by decide)) (sh_rX1 _ hj (br_f (by decide) h)))
theorem sh_pXr (post : Int32 → Prop) {i : Nat} {y : Int32} (hi : i < 24) (hy : y < 0 ∨ (¬ y < 0 ∧ nI 12 ≤ y)) (h : post 0) : wpX_isPixel post (nI i) y :=
  br_f (nI_pos (by omega)) (br_f (nI_ge (b := 24) hi (by decide)) (sh_rX0 _ hy (br_t rfl h)))
theorem sh_pXc (post : Int32 → Prop) {x y : Int32} (hx : x < 0 ∨ (¬ x < 0 ∧ nI 24 ≤ x)) (h : post 0) : wpX_isPixel post x y := by
  rcases hx with z | ⟨z, w⟩
  · exact br_t z h
  · exact br_f z (br_t w h)
theorem sh_dX1 (post : Int32 → Prop) {m p : Nat} (hm : m ≤ 6) (hp : p < m) (h : post 1) : wpX_isDrawn post (dp, A, B, C, nI m, aX, aY, pX, pY, pc, qA, qB, qC) (nI p) := br_f (nI_pos (by omega)) (br_f (nI_ge hp (by omega)) h)
theorem sh_dX0 (post : Int32 → Prop) {m : Nat} {x : Int32} (hx : x < 0 ∨ (¬ x < 0 ∧ nI m ≤ x)) (h : post 0) : wpX_isDrawn post (dp, A, B, C, nI m, aX, aY, pX, pY, pc, qA, qB, qC) x := by
  rcases hx with z | ⟨z, w⟩
  · exact br_t z h
  · exact br_f z (br_t w h)
theorem sh_mY0 (post : Int32 → Prop) {m p : Nat} (hm : m ≤ 6) (hp : p < m) (h : post 0) : wpY_missing post (dp, A, B, C, nI m, xs, ys, pc, qA, qB, qC) (nI p) := br_f (nI_pos (by omega)) (br_f (nI_ge hp (by omega)) (br_t (nI_lt (b := 6) (by omega) (by decide)) h))
theorem sh_mY1 (post : Int32 → Prop) {m : Nat} {x : Int32} (hx : x < 0 ∨ (¬ x < 0 ∧ nI m ≤ x)) (h : post 1) : wpY_missing post (dp, A, B, C, nI m, xs, ys, pc, qA, qB, qC) x := by
  rcases hx with z | ⟨z, w⟩
  · exact br_t z h
  · exact br_f z (br_t w h)
/-! spans -/
variable {f : Nat → Nat → Option Nat}
theorem sh_begY (hO : sh_O (dp, A, B, C, pg, aX, aY, pX, pY, pc, qA, qB, qC) (dp, A, B, C, pg, xs, ys, pc, qA, qB, qC) f) (post : Int32 → Prop) {i j : Nat} (hi : i + 1 < 24) (hj : j < 12) (h0 : f (i + 1) j = f i j → post 0) (h1 : ¬ f (i + 1) j = f i j → post 1) : wpY_begins post (dp, A, B, C, pg, xs, ys, pc, qA, qB, qC) (nI (i + 1)) (nI j) := by
  refine br_f (nI_ne0 (by omega) (by omega)) ((hO (i + 1) j hi hj).2.2 _ ?_)
  rw [nI_pred]
  exact (hO i j (by omega) hj).2.2 _ (sh_if (sh_yi (sh_Ok hO hi hj) (sh_Ok hO (by omega) hj)) h0 h1)
theorem sh_spL (hO : sh_O (dp, A, B, C, pg, aX, aY, pX, pY, pc, qA, qB, qC) (dp, A, B, C, pg, xs, ys, pc, qA, qB, qC) f) {j : Nat} (hj : j < 12) : ∀ d i : Nat, ∀ c : Int32, i + 1 + d = 24 → ∃ r : Int32,
    (∀ post : Int32 → Prop, post r → wX_spans_21 post (nI j) dp A B C pg aX aY pX pY pc qA qB qC (d + 1) c (sh_x (f i j)) (nI (i + 1))) ∧
    (∀ post : Int32 → Prop, post r → wY_spans_14 post (nI j) dp A B C pg xs ys pc qA qB qC (d + 1) c (nI (i + 1))) := by
  intro d
  induction d with
  | zero =>
    intro i c hi
    exact ⟨c, fun post h => br_t (nI_le (a := 24) (by omega) (by omega)) h, fun post h => br_t (nI_le (a := 24) (by omega) (by omega)) h⟩
  | succ d ih =>
    intro i c hi
    have x1 : ¬ (24 : Int32) ≤ nI (i + 1) := nI_ge (b := 24) (by omega) (by decide)
    have hi1 : i + 1 < 24 := by omega
    have E := sh_xi (sh_Ok hO hi1 hj) (sh_Ok hO (i := i) (by omega) hj)
    by_cases e : f (i + 1) j = f i j
    · obtain ⟨r, HX, HY⟩ := ih (i + 1) c (by omega)
      refine ⟨r, fun post h => br_f x1 ((hO (i + 1) j hi1 hj).2.1 _ (br_t (E.mpr e) (nm_r (nI_1 _) (HX post h)))), fun post h => br_f x1 (sh_begY hO _ hi1 hj (fun _ => br_t rfl (nm_r (nI_1 _) (HY post h))) (fun z => absurd e z))⟩
    · obtain ⟨r, HX, HY⟩ := ih (i + 1) (c + 1) (by omega)
      refine ⟨r, fun post h => br_f x1 ((hO (i + 1) j hi1 hj).2.1 _ (br_f (fun z => e (E.mp z)) (nm_e (nm_r (nI_1 _) (HX post h))))), fun post h => br_f x1 (sh_begY hO _ hi1 hj (fun z => absurd z e) (fun _ => br_f (by decide) (nm_e (nm_r (nI_1 _) (HY post h)))))⟩
theorem sh_sp (hO : sh_O (dp, A, B, C, pg, aX, aY, pX, pY, pc, qA, qB, qC) (dp, A, B, C, pg, xs, ys, pc, qA, qB, qC) f) {j : Nat} (hj : j < 12) : ∃ r : Int32, (∀ post : Int32 → Prop, post r → wpX_spans post (dp, A, B, C, pg, aX, aY, pX, pY, pc, qA, qB, qC) (nI j)) ∧ (∀ post : Int32 → Prop, post r → wpY_spans post (dp, A, B, C, pg, xs, ys, pc, qA, qB, qC) (nI j)) := by
  obtain ⟨r, HX, HY⟩ := sh_spL hO hj 23 0 1 rfl
  refine ⟨r, fun post h => ?_, fun post h => ?_⟩
  · unfold wpX_spans
    refine sh_rX1 _ hj ?_
    exact br_f (by decide) ((hO 0 j (by omega) hj).2.1 _ ⟨24, HX post h⟩)
  · unfold wpY_spans
    refine sh_rY0 _ hj ?_
    refine br_t rfl ⟨25, ?_⟩
    exact br_f (by decide) (br_t rfl (br_f (by decide) (nm_e (nm_e (HY post h)))))
/-! startOf -/
theorem sh_stL (hO : sh_O (dp, A, B, C, pg, aX, aY, pX, pY, pc, qA, qB, qC) (dp, A, B, C, pg, xs, ys, pc, qA, qB, qC) f) {j : Nat} {s : Int32} (hj : j < 12) : ∀ d i : Nat, ∀ t : Int32, i + 1 + d = 24 → ∃ r : Option Nat, (∀ q, r = some q → q < 24) ∧
    (∀ post : Int32 → Prop, post (sh_x r) → wX_startOf_19 post (nI j) s dp A B C pg aX aY pX pY pc qA qB qC (d + 1) t (sh_x (f i j)) (nI (i + 1))) ∧
    (∀ post : Int32 → Prop, post (sh_y r) → wY_startOf_5 post (nI j) s dp A B C pg xs ys pc qA qB qC (d + 1) (t + 1) (nI (i + 1))) := by
  intro d
  induction d with
  | zero =>
    intro i t hi
    exact ⟨none, fun q e => (nomatch e), fun post h => br_t (nI_le (a := 24) (by omega) (by omega)) h, fun post h => br_t (nI_le (a := 24) (by omega) (by omega)) h⟩
  | succ d ih =>
    intro i t hi
    have x1 : ¬ (24 : Int32) ≤ nI (i + 1) := nI_ge (b := 24) (by omega) (by decide)
    have hi1 : i + 1 < 24 := by omega
    have E := sh_xi (sh_Ok hO hi1 hj) (sh_Ok hO (i := i) (by omega) hj)
    by_cases e : f (i + 1) j = f i j
    · obtain ⟨r, hr, HX, HY⟩ := ih (i + 1) t (by omega)
      refine ⟨r, hr, fun post h => br_f x1 ((hO (i + 1) j hi1 hj).2.1 _ (br_t (E.mpr e) (nm_r (nI_1 _) (HX post h)))), fun post h => br_f x1 (sh_begY hO _ hi1 hj (fun _ => br_t rfl (nm_r (nI_1 _) (HY post h))) (fun z => absurd e z))⟩
    · by_cases es : t + 1 = s
      · refine ⟨some (i + 1), fun q e => by cases e; exact hi1, fun post h => br_f x1 ((hO (i + 1) j hi1 hj).2.1 _ (br_f (fun z => e (E.mp z)) (nm_e (br_t es h)))), fun post h => br_f x1 (sh_begY hO _ hi1 hj (fun z => absurd z e) (fun _ => br_f (by decide) (br_t es h)))⟩
      · obtain ⟨r, hr, HX, HY⟩ := ih (i + 1) (t + 1) (by omega)
        refine ⟨r, hr, fun post h => br_f x1 ((hO (i + 1) j hi1 hj).2.1 _ (br_f (fun z => e (E.mp z)) (nm_e (br_f es (nm_r (nI_1 _) (HX post h)))))), fun post h => br_f x1 (sh_begY hO _ hi1 hj (fun z => absurd z e) (fun _ => br_f (by decide) (br_f es (nm_e (nm_r (nI_1 _) (HY post h))))))⟩
theorem sh_st (hO : sh_O (dp, A, B, C, pg, aX, aY, pX, pY, pc, qA, qB, qC) (dp, A, B, C, pg, xs, ys, pc, qA, qB, qC) f) {j : Nat} (s : Int32) (hj : j < 12) : ∃ r : Option Nat, (∀ q, r = some q → q < 24) ∧ (∀ post : Int32 → Prop, post (sh_x r) → wpX_startOf post (dp, A, B, C, pg, aX, aY, pX, pY, pc, qA, qB, qC) (nI j) s) ∧ (∀ post : Int32 → Prop, post (sh_y r) → wpY_startOf post (dp, A, B, C, pg, xs, ys, pc, qA, qB, qC) (nI j) s) := by
  by_cases e : s = 0
  · subst e
    refine ⟨some 0, fun q e => by cases e; decide, fun post h => br_t rfl h, fun post h => ⟨1, ?_⟩⟩
    exact br_f (by decide) (br_t rfl (br_f (by decide) (br_t rfl h)))
  · obtain ⟨r, hr, HX, HY⟩ := sh_stL hO (s := s) hj 23 0 0 rfl
    refine ⟨r, hr, fun post h => ?_, fun post h => ⟨25, ?_⟩⟩
    · exact br_f e ((hO 0 j (by omega) hj).2.1 _ ⟨24, HX post h⟩)
    · exact br_f (by decide) (br_t rfl (br_f (by decide) (br_f (fun z => e z.symm) (nm_e (nm_e (HY post h))))))
end
