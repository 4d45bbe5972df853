/-! owned, covered, lit, seams: nested loops over the same function -/
section
variable {dp A B C pg : Int32} {aX aY pX pY pc qA qB qC xs ys : Nat → Int32} {f : Nat → Nat → Option Nat}
theorem sh_owI (hO : sh_O (dp, A, B, C, pg, aX, aY, pX, pY, pc, qA, qB, qC) (dp, A, B, C, pg, xs, ys, pc, qA, qB, qC) f) {p j : Nat} (hp : p < 6) (hj : j < 12) : ∀ d i : Nat, ∀ c : Int32, i + d = 24 → ∃ r : Int32,
    (∀ (post : Int32 → Prop) (J : Int32 → Int32 → Prop), J r (nI (j + 1)) → wX_owned_23 post J (nI p) (nI j) dp A B C pg aX aY pX pY pc qA qB qC (d + 1) c (nI i)) ∧
    (∀ (post : Int32 → Prop) (J : Int32 → Int32 → Prop), J r (nI (j + 1)) → wY_owned_23 post J (nI p) (nI j) dp A B C pg xs ys pc qA qB qC (d + 1) c (nI i)) := by
  intro d
  induction d with
  | zero =>
    intro i c hi
    exact ⟨c, fun post J h => br_t (nI_le (a := 24) (by omega) (by omega)) (nm_r (nI_1 _) h), fun post J h => br_t (nI_le (a := 24) (by omega) (by omega)) (nm_r (nI_1 _) h)⟩
  | succ d ih =>
    intro i c hi
    have x1 : ¬ (24 : Int32) ≤ nI i := nI_ge (b := 24) (by omega) (by decide)
    have hi1 : i < 24 := by omega
    have EX := sh_xs (p := p) (sh_Ok hO hi1 hj) (by omega)
    have EY := sh_ys (p := p) (sh_Ok hO hi1 hj) (by omega)
    by_cases e : f i j = some p
    · obtain ⟨r, HX, HY⟩ := ih (i + 1) (c + 1) (by omega)
      exact ⟨r, fun post J h => br_f x1 ((hO i j hi1 hj).2.1 _ (br_t (EX.mpr e) (nm_e (nm_r (nI_1 _) (HX post J h))))), fun post J h => br_f x1 ((hO i j hi1 hj).2.2 _ (br_t (EY.mpr e) (nm_e (nm_r (nI_1 _) (HY post J h)))))⟩
    · obtain ⟨r, HX, HY⟩ := ih (i + 1) c (by omega)
      exact ⟨r, fun post J h => br_f x1 ((hO i j hi1 hj).2.1 _ (br_f (fun z => e (EX.mp z)) (nm_r (nI_1 _) (HX post J h)))), fun post J h => br_f x1 ((hO i j hi1 hj).2.2 _ (br_f (fun z => e (EY.mp z)) (nm_r (nI_1 _) (HY post J h))))⟩
theorem sh_owO (hO : sh_O (dp, A, B, C, pg, aX, aY, pX, pY, pc, qA, qB, qC) (dp, A, B, C, pg, xs, ys, pc, qA, qB, qC) f) {p : Nat} (hp : p < 6) : ∀ d j : Nat, ∀ c : Int32, j + d = 12 → ∃ r : Int32,
    (∀ post : Int32 → Prop, post r → wX_owned_14 post (nI p) dp A B C pg aX aY pX pY pc qA qB qC (d + 1) c (nI j)) ∧
    (∀ post : Int32 → Prop, post r → wY_owned_14 post (nI p) dp A B C pg xs ys pc qA qB qC (d + 1) c (nI j)) := by
  intro d
  induction d with
  | zero =>
    intro j c hj
    exact ⟨c, fun post h => br_t (nI_le (a := 12) (by omega) (by omega)) h, fun post h => br_t (nI_le (a := 12) (by omega) (by omega)) h⟩
  | succ d ih =>
    intro j c hj
    have x1 : ¬ (12 : Int32) ≤ nI j := nI_ge (b := 12) (by omega) (by decide)
    obtain ⟨c', IX, IY⟩ := sh_owI hO hp (j := j) (by omega) 24 0 c rfl
    obtain ⟨r, HX, HY⟩ := ih (j + 1) c' (by omega)
    exact ⟨r, fun post h => br_f x1 ⟨25, IX post _ (HX post h)⟩, fun post h => br_f x1 ⟨25, IY post _ (HY post h)⟩⟩
theorem sh_cvI {p j : Nat} (hP : sh_Poly pX pY xs ys pc p) (hp : p < 6) (hj : j < 12) : ∀ d i : Nat, ∀ c : Int32, i + d = 24 → ∃ r : Int32,
    (∀ (post : Int32 → Prop) (J : Int32 → Int32 → Prop), J r (nI (j + 1)) → wX_covered_23 post J (nI p) (nI j) dp A B C pg aX aY pX pY pc qA qB qC (d + 1) c (nI i)) ∧
    (∀ (post : Int32 → Prop) (J : Int32 → Int32 → Prop), J r (nI (j + 1)) → wY_covered_23 post J (nI p) (nI j) dp A B C pg xs ys pc qA qB qC (d + 1) c (nI i)) := by
  intro d
  induction d with
  | zero =>
    intro i c hi
    exact ⟨c, fun post J h => br_t (nI_le (a := 24) (by omega) (by omega)) (nm_r (nI_1 _) h), fun post J h => br_t (nI_le (a := 24) (by omega) (by omega)) (nm_r (nI_1 _) h)⟩
  | succ d ih =>
    intro i c hi
    have x1 : ¬ (24 : Int32) ≤ nI i := nI_ge (b := 24) (by omega) (by decide)
    obtain ⟨b, hb, CX, CY⟩ := sh_cov dp A B C pg aX aY pX pY pc qA qB qC xs ys hp (i := i) (by omega) hj hP
    by_cases e : b = 0
    · obtain ⟨r, HX, HY⟩ := ih (i + 1) c (by omega)
      exact ⟨r, fun post J h => br_f x1 (CX _ (br_t e (nm_r (nI_1 _) (HX post J h)))), fun post J h => br_f x1 (CY _ (br_t e (nm_r (nI_1 _) (HY post J h))))⟩
    · obtain ⟨r, HX, HY⟩ := ih (i + 1) (c + 1) (by omega)
      exact ⟨r, fun post J h => br_f x1 (CX _ (br_f e (nm_e (nm_r (nI_1 _) (HX post J h))))), fun post J h => br_f x1 (CY _ (br_f e (nm_e (nm_r (nI_1 _) (HY post J h)))))⟩
theorem sh_cvO {p : Nat} (hP : sh_Poly pX pY xs ys pc p) (hp : p < 6) : ∀ d j : Nat, ∀ c : Int32, j + d = 12 → ∃ r : Int32,
    (∀ post : Int32 → Prop, post r → wX_covered_14 post (nI p) dp A B C pg aX aY pX pY pc qA qB qC (d + 1) c (nI j)) ∧
    (∀ post : Int32 → Prop, post r → wY_covered_14 post (nI p) dp A B C pg xs ys pc qA qB qC (d + 1) c (nI j)) := by
  intro d
  induction d with
  | zero =>
    intro j c hj
    exact ⟨c, fun post h => br_t (nI_le (a := 12) (by omega) (by omega)) h, fun post h => br_t (nI_le (a := 12) (by omega) (by omega)) h⟩
  | succ d ih =>
    intro j c hj
    have x1 : ¬ (12 : Int32) ≤ nI j := nI_ge (b := 12) (by omega) (by decide)
    obtain ⟨c', IX, IY⟩ := sh_cvI (dp := dp) (A := A) (B := B) (C := C) (pg := pg) (aX := aX) (aY := aY) (qA := qA) (qB := qB) (qC := qC) hP hp (j := j) (by omega) 24 0 c rfl
    obtain ⟨r, HX, HY⟩ := ih (j + 1) c' (by omega)
    exact ⟨r, fun post h => br_f x1 ⟨25, IX post _ (HX post h)⟩, fun post h => br_f x1 ⟨25, IY post _ (HY post h)⟩⟩
theorem sh_liI (hO : sh_O (dp, A, B, C, pg, aX, aY, pX, pY, pc, qA, qB, qC) (dp, A, B, C, pg, xs, ys, pc, qA, qB, qC) f) {j : Nat} (hj : j < 12) : ∀ d i : Nat, ∀ c : Int32, i + d = 24 → ∃ r : Int32,
    (∀ (post : Int32 → Prop) (J : Int32 → Int32 → Prop), J r (nI (j + 1)) → wX_lit_12 post J (nI j) dp A B C pg aX aY pX pY pc qA qB qC (d + 1) c (nI i)) ∧
    (∀ (post : Int32 → Prop) (J : Int32 → Int32 → Prop), J r (nI (j + 1)) → wY_lit_12 post J (nI j) dp A B C pg xs ys pc qA qB qC (d + 1) c (nI i)) := by
  intro d
  induction d with
  | zero =>
    intro i c hi
    exact ⟨c, fun post J h => br_t (nI_le (a := 24) (by omega) (by omega)) (nm_r (nI_1 _) h), fun post J h => br_t (nI_le (a := 24) (by omega) (by omega)) (nm_r (nI_1 _) h)⟩
  | succ d ih =>
    intro i c hi
    have x1 : ¬ (24 : Int32) ≤ nI i := nI_ge (b := 24) (by omega) (by decide)
    have hi1 : i < 24 := by omega
    have EX := sh_xn (sh_Ok hO hi1 hj)
    have EY := sh_yl (sh_Ok hO hi1 hj)
    by_cases e : f i j = none
    · obtain ⟨r, HX, HY⟩ := ih (i + 1) c (by omega)
      exact ⟨r, fun post J h => br_f x1 ((hO i j hi1 hj).2.1 _ (br_t (EX.mpr e) (nm_r (nI_1 _) (HX post J h)))), fun post J h => br_f x1 ((hO i j hi1 hj).2.2 _ (br_t (EY.mpr e) (nm_r (nI_1 _) (HY post J h))))⟩
    · obtain ⟨r, HX, HY⟩ := ih (i + 1) (c + 1) (by omega)
      exact ⟨r, fun post J h => br_f x1 ((hO i j hi1 hj).2.1 _ (br_f (fun z => e (EX.mp z)) (nm_e (nm_r (nI_1 _) (HX post J h))))), fun post J h => br_f x1 ((hO i j hi1 hj).2.2 _ (br_f (fun z => e (EY.mp z)) (nm_e (nm_r (nI_1 _) (HY post J h)))))⟩
theorem sh_liO (hO : sh_O (dp, A, B, C, pg, aX, aY, pX, pY, pc, qA, qB, qC) (dp, A, B, C, pg, xs, ys, pc, qA, qB, qC) f) : ∀ d j : Nat, ∀ c : Int32, j + d = 12 → ∃ r : Int32,
    (∀ post : Int32 → Prop, post r → wX_lit_4 post dp A B C pg aX aY pX pY pc qA qB qC (d + 1) c (nI j)) ∧
    (∀ post : Int32 → Prop, post r → wY_lit_4 post dp A B C pg xs ys pc qA qB qC (d + 1) c (nI j)) := by
  intro d
  induction d with
  | zero =>
    intro j c hj
    exact ⟨c, fun post h => br_t (nI_le (a := 12) (by omega) (by omega)) h, fun post h => br_t (nI_le (a := 12) (by omega) (by omega)) h⟩
  | succ d ih =>
    intro j c hj
    have x1 : ¬ (12 : Int32) ≤ nI j := nI_ge (b := 12) (by omega) (by decide)
    obtain ⟨c', IX, IY⟩ := sh_liI hO (j := j) (by omega) 24 0 c rfl
    obtain ⟨r, HX, HY⟩ := ih (j + 1) c' (by omega)
    exact ⟨r, fun post h => br_f x1 ⟨25, IX post _ (HX post h)⟩, fun post h => br_f x1 ⟨25, IY post _ (HY post h)⟩⟩
theorem sh_seI (hO : sh_O (dp, A, B, C, pg, aX, aY, pX, pY, pc, qA, qB, qC) (dp, A, B, C, pg, xs, ys, pc, qA, qB, qC) f) {j : Nat} (hj : j < 12) : ∀ d i : Nat, ∀ c : Int32, i + 1 + d = 24 → ∃ r : Int32,
    (∀ (post : Int32 → Prop) (J : Int32 → Int32 → Prop), J r (nI (j + 1)) → wX_seams_20 post J (nI j) dp A B C pg aX aY pX pY pc qA qB qC (d + 1) c (sh_x (f i j)) (nI (i + 1))) ∧
    (∀ (post : Int32 → Prop) (J : Int32 → Int32 → Prop), J r (nI (j + 1)) → wY_seams_12 post J (nI j) dp A B C pg xs ys pc qA qB qC (d + 1) c (nI (i + 1))) := by
  intro d
  induction d with
  | zero =>
    intro i c hi
    exact ⟨c, fun post J h => br_t (nI_le (a := 24) (by omega) (by omega)) (nm_r (nI_1 _) h), fun post J h => br_t (nI_le (a := 24) (by omega) (by omega)) (nm_r (nI_1 _) h)⟩
  | succ d ih =>
    intro i c hi
    have x1 : ¬ (24 : Int32) ≤ nI (i + 1) := nI_ge (b := 24) (by omega) (by decide)
    have hi1 : i + 1 < 24 := by omega
    have hi0 : i < 24 := by omega
    have k1 := sh_Ok hO hi1 hj
    have k0 := sh_Ok hO hi0 hj
    have E := sh_xi k1 k0
    have F := sh_yi k1 k0
    by_cases e : ¬ f i j = none ∧ ¬ f (i + 1) j = none ∧ ¬ f (i + 1) j = f i j
    · obtain ⟨r, HX, HY⟩ := ih (i + 1) (c + 1) (by omega)
      refine ⟨r, fun post J h => br_f x1 ((hO (i + 1) j hi1 hj).2.1 _ ?_), fun post J h => br_f x1 ((hO (i + 1) j hi1 hj).2.2 _ ?_)⟩
      · exact br_f (fun z => e.1 ((sh_xn k0).mp z)) (br_f (fun z => e.2.1 ((sh_xn k1).mp z)) (br_f (fun z => e.2.2 (E.mp z)) (nm_e (nm_r (nI_1 _) (HX post J h)))))
      · rw [nI_pred]
        exact (hO i j hi0 hj).2.2 _ (br_f (fun z => e.2.1 ((sh_yl k1).mp z)) (br_f (fun z => e.1 ((sh_yl k0).mp z)) (br_f (fun z => e.2.2 (F.mp z)) (nm_e (nm_r (nI_1 _) (HY post J h))))))
    · obtain ⟨r, HX, HY⟩ := ih (i + 1) c (by omega)
      refine ⟨r, fun post J h => br_f x1 ((hO (i + 1) j hi1 hj).2.1 _ ?_), fun post J h => br_f x1 ((hO (i + 1) j hi1 hj).2.2 _ ?_)⟩
      · exact sh_if (sh_xn k0) (fun _ => nm_r (nI_1 _) (HX post J h)) (fun a => sh_if (sh_xn k1) (fun _ => nm_r (nI_1 _) (HX post J h)) (fun b => sh_if E (fun _ => nm_r (nI_1 _) (HX post J h)) (fun g => absurd ⟨a, b, g⟩ e)))
      · rw [nI_pred]
        exact (hO i j hi0 hj).2.2 _ (sh_if (sh_yl k1) (fun _ => nm_r (nI_1 _) (HY post J h)) (fun b => sh_if (sh_yl k0) (fun _ => nm_r (nI_1 _) (HY post J h)) (fun a => sh_if F (fun _ => nm_r (nI_1 _) (HY post J h)) (fun g => absurd ⟨a, b, g⟩ e))))
theorem sh_seO (hO : sh_O (dp, A, B, C, pg, aX, aY, pX, pY, pc, qA, qB, qC) (dp, A, B, C, pg, xs, ys, pc, qA, qB, qC) f) : ∀ d j : Nat, ∀ c : Int32, j + d = 12 → ∃ r : Int32,
    (∀ post : Int32 → Prop, post r → wX_seams_4 post dp A B C pg aX aY pX pY pc qA qB qC (d + 1) c (nI j)) ∧
    (∀ post : Int32 → Prop, post r → wY_seams_4 post dp A B C pg xs ys pc qA qB qC (d + 1) c (nI j)) := by
  intro d
  induction d with
  | zero =>
    intro j c hj
    exact ⟨c, fun post h => br_t (nI_le (a := 12) (by omega) (by omega)) h, fun post h => br_t (nI_le (a := 12) (by omega) (by omega)) h⟩
  | succ d ih =>
    intro j c hj
    have x1 : ¬ (12 : Int32) ≤ nI j := nI_ge (b := 12) (by omega) (by decide)
    obtain ⟨c', IX, IY⟩ := sh_seI hO (j := j) (by omega) 23 0 c rfl
    obtain ⟨r, HX, HY⟩ := ih (j + 1) c' (by omega)
    exact ⟨r, fun post h => br_f x1 ((hO 0 j (by omega) (by omega)).2.1 _ ⟨24, IX post _ (HX post h)⟩), fun post h => br_f x1 ⟨24, IY post _ (HY post h)⟩⟩
end
