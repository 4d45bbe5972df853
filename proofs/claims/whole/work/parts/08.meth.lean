/-! the methods, one answer for both sides -/
theorem sh_ix2 (x : Int32) {n : Nat} (hn : n < 2 ^ 31) : (x < 0 ∨ (¬ x < 0 ∧ nI n ≤ x)) ∨ ∃ j : Nat, j < n ∧ x = nI j := by
  rcases sh_ix x hn with h | h | h
  · exact Or.inl (Or.inl h)
  · exact Or.inl (Or.inr h)
  · exact Or.inr h
section
variable {dp A B C pg : Int32} {aX aY pX pY pc qA qB qC xs ys : Nat → Int32} {f : Nat → Nat → Option Nat}
theorem sh_m_owner (hO : sh_O (dp, A, B, C, pg, aX, aY, pX, pY, pc, qA, qB, qC) (dp, A, B, C, pg, xs, ys, pc, qA, qB, qC) f) (x y : Int32) : ∃ r : Int32, (∀ post : Int32 → Prop, post r → wpX_owner post (dp, A, B, C, pg, aX, aY, pX, pY, pc, qA, qB, qC) x y) ∧ (∀ post : Int32 → Prop, post r → wpY_owner post (dp, A, B, C, pg, xs, ys, pc, qA, qB, qC) x y) := by
  rcases sh_ix2 x (n := 24) (by decide) with hx | ⟨i, hi, rfl⟩
  · refine ⟨-1, fun post h => ?_, fun post h => ?_⟩
    · unfold wpX_owner
      refine sh_pXc _ hx ?_
      exact br_t rfl h
    · unfold wpY_owner
      refine sh_cY1 _ hx ?_
      exact br_f (by decide) h
  · rcases sh_ix2 y (n := 12) (by decide) with hy | ⟨j, hj, rfl⟩
    · refine ⟨-1, fun post h => ?_, fun post h => ?_⟩
      · unfold wpX_owner
        refine sh_pXr _ hi hy ?_
        exact br_t rfl h
      · unfold wpY_owner
        refine sh_cY0 _ hi ?_
        refine br_t rfl ?_
        refine sh_rY1 _ hy ?_
        exact br_f (by decide) h
    · refine ⟨sh_y (f i j), fun post h => ?_, fun post h => ?_⟩
      · unfold wpX_owner
        refine sh_pX1 _ hi hj ?_
        refine br_f (by decide) ?_
        refine (hO i j hi hj).2.1 _ ?_
        refine sh_if (sh_xn (sh_Ok hO hi hj)) (fun z => ?_) (fun z => ?_)
        · rw [z] at h; exact h
        · generalize f i j = o at h z ⊢
          cases o with
          | none => exact absurd rfl z
          | some q => exact h
      · unfold wpY_owner
        refine sh_cY0 _ hi ?_
        refine br_t rfl ?_
        refine sh_rY0 _ hj ?_
        refine br_t rfl ?_
        exact (hO i j hi hj).2.2 _ h
theorem sh_m_depthAt (hO : sh_O (dp, A, B, C, pg, aX, aY, pX, pY, pc, qA, qB, qC) (dp, A, B, C, pg, xs, ys, pc, qA, qB, qC) f) (x y : Int32) : ∃ r : Int32, (∀ post : Int32 → Prop, post r → wpX_depthAt post (dp, A, B, C, pg, aX, aY, pX, pY, pc, qA, qB, qC) x y) ∧ (∀ post : Int32 → Prop, post r → wpY_depthAt post (dp, A, B, C, pg, xs, ys, pc, qA, qB, qC) x y) := by
  rcases sh_ix2 x (n := 24) (by decide) with hx | ⟨i, hi, rfl⟩
  · refine ⟨1000000, fun post h => ?_, fun post h => ?_⟩
    · unfold wpX_depthAt
      refine sh_pXc _ hx ?_
      exact br_t rfl h
    · unfold wpY_depthAt
      refine sh_cY1 _ hx ?_
      exact br_f (by decide) h
  · rcases sh_ix2 y (n := 12) (by decide) with hy | ⟨j, hj, rfl⟩
    · refine ⟨1000000, fun post h => ?_, fun post h => ?_⟩
      · unfold wpX_depthAt
        refine sh_pXr _ hi hy ?_
        exact br_t rfl h
      · unfold wpY_depthAt
        refine sh_cY0 _ hi ?_
        refine br_t rfl ?_
        refine sh_rY1 _ hy ?_
        exact br_f (by decide) h
    · have K := hO i j hi hj
      generalize f i j = o at K
      obtain ⟨k1, KX, KY⟩ := K
      cases o with
      | none =>
        refine ⟨1000000, fun post h => ?_, fun post h => ?_⟩
        · unfold wpX_depthAt
          refine sh_pX1 _ hi hj ?_
          refine br_f (by decide) ?_
          refine KX _ ?_
          exact br_t rfl h
        · unfold wpY_depthAt
          refine sh_cY0 _ hi ?_
          refine br_t rfl ?_
          refine sh_rY0 _ hj ?_
          refine br_t rfl ?_
          refine KY _ ?_
          exact br_f (by decide) h
      | some q =>
        have hq := k1 q rfl
        have T := sh_t1 q (by omega)
        refine ⟨sh_dep qA qB qC q (nI i) (nI j), fun post h => ?_, fun post h => ?_⟩
        · unfold wpX_depthAt
          refine sh_pX1 _ hi hj ?_
          refine br_f (by decide) ?_
          refine KX _ ?_
          refine br_f T.1 ?_
          exact sh_dX dp A B C pg aX aY pX pY pc qA qB qC _ hq h
        · unfold wpY_depthAt
          refine sh_cY0 _ hi ?_
          refine br_t rfl ?_
          refine sh_rY0 _ hj ?_
          refine br_t rfl ?_
          refine KY _ ?_
          refine br_t T.2.2.2 ?_
          exact sh_dY dp A B C pg pc qA qB qC xs ys _ hq h
theorem sh_m_spans (hO : sh_O (dp, A, B, C, pg, aX, aY, pX, pY, pc, qA, qB, qC) (dp, A, B, C, pg, xs, ys, pc, qA, qB, qC) f) (y : Int32) : ∃ r : Int32, (∀ post : Int32 → Prop, post r → wpX_spans post (dp, A, B, C, pg, aX, aY, pX, pY, pc, qA, qB, qC) y) ∧ (∀ post : Int32 → Prop, post r → wpY_spans post (dp, A, B, C, pg, xs, ys, pc, qA, qB, qC) y) := by
  rcases sh_ix2 y (n := 12) (by decide) with hy | ⟨j, hj, rfl⟩
  · refine ⟨-1, fun post h => ?_, fun post h => ?_⟩
    · unfold wpX_spans
      refine sh_rX0 _ hy ?_
      exact br_t rfl h
    · unfold wpY_spans
      refine sh_rY1 _ hy ?_
      exact br_f (by decide) h
  · exact sh_sp hO hj
theorem sh_m_spanStart (hO : sh_O (dp, A, B, C, pg, aX, aY, pX, pY, pc, qA, qB, qC) (dp, A, B, C, pg, xs, ys, pc, qA, qB, qC) f) (y s : Int32) : ∃ r : Int32, (∀ post : Int32 → Prop, post r → wpX_spanStart post (dp, A, B, C, pg, aX, aY, pX, pY, pc, qA, qB, qC) y s) ∧ (∀ post : Int32 → Prop, post r → wpY_spanStart post (dp, A, B, C, pg, xs, ys, pc, qA, qB, qC) y s) := by
  rcases sh_ix2 y (n := 12) (by decide) with hy | ⟨j, hj, rfl⟩
  · refine ⟨-1, fun post h => ?_, fun post h => ?_⟩
    · unfold wpX_spanStart
      refine sh_rX0 _ hy ?_
      exact br_t rfl h
    · unfold wpY_spanStart
      refine sh_rY1 _ hy ?_
      exact br_f (by decide) h
  · obtain ⟨o, ho, SX1, SY1⟩ := sh_st hO s hj
    refine ⟨sh_y o, fun post h => ?_, fun post h => ?_⟩
    · unfold wpX_spanStart
      refine sh_rX1 _ hj ?_
      refine br_f (by decide) ?_
      refine SX1 _ ?_
      cases o with
      | none => exact br_t rfl h
      | some q => exact br_f (sh_t1 q (by have := ho q rfl; omega)).1 h
    · unfold wpY_spanStart
      refine sh_rY0 _ hj ?_
      refine br_t rfl ?_
      exact SY1 _ h
theorem sh_m_spanOwner (hO : sh_O (dp, A, B, C, pg, aX, aY, pX, pY, pc, qA, qB, qC) (dp, A, B, C, pg, xs, ys, pc, qA, qB, qC) f) (y s : Int32) : ∃ r : Int32, (∀ post : Int32 → Prop, post r → wpX_spanOwner post (dp, A, B, C, pg, aX, aY, pX, pY, pc, qA, qB, qC) y s) ∧ (∀ post : Int32 → Prop, post r → wpY_spanOwner post (dp, A, B, C, pg, xs, ys, pc, qA, qB, qC) y s) := by
  rcases sh_ix2 y (n := 12) (by decide) with hy | ⟨j, hj, rfl⟩
  · refine ⟨-1, fun post h => ?_, fun post h => ?_⟩
    · unfold wpX_spanOwner
      refine sh_rX0 _ hy ?_
      exact br_t rfl h
    · unfold wpY_spanOwner
      refine sh_rY1 _ hy ?_
      exact br_f (by decide) h
  · obtain ⟨o, ho, SX1, SY1⟩ := sh_st hO s hj
    cases o with
    | none =>
      refine ⟨-2, fun post h => ?_, fun post h => ?_⟩
      · unfold wpX_spanOwner
        refine sh_rX1 _ hj ?_
        refine br_f (by decide) ?_
        refine SX1 _ ?_
        exact br_t rfl h
      · unfold wpY_spanOwner
        refine sh_rY0 _ hj ?_
        refine br_t rfl ?_
        refine SY1 _ ?_
        exact br_f (by decide) h
    | some i =>
      have hi := ho i rfl
      have Ti := sh_t1 i (by omega)
      have K := hO i j hi hj
      generalize f i j = o at K
      obtain ⟨k1, KX, KY⟩ := K
      cases o with
      | none =>
        refine ⟨-3, fun post h => ?_, fun post h => ?_⟩
        · unfold wpX_spanOwner
          refine sh_rX1 _ hj ?_
          refine br_f (by decide) ?_
          refine SX1 _ ?_
          refine br_f Ti.1 ?_
          refine KX _ ?_
          exact br_t rfl h
        · unfold wpY_spanOwner
          refine sh_rY0 _ hj ?_
          refine br_t rfl ?_
          refine SY1 _ ?_
          refine br_t Ti.2.2.2 ?_
          refine KY _ ?_
          exact br_f (by decide) h
      | some q =>
        have T := sh_t1 q (by have := k1 q rfl; omega)
        refine ⟨nI q, fun post h => ?_, fun post h => ?_⟩
        · unfold wpX_spanOwner
          refine sh_rX1 _ hj ?_
          refine br_f (by decide) ?_
          refine SX1 _ ?_
          refine br_f Ti.1 ?_
          refine KX _ ?_
          exact br_f T.1 h
        · unfold wpY_spanOwner
          refine sh_rY0 _ hj ?_
          refine br_t rfl ?_
          refine SY1 _ ?_
          refine br_t Ti.2.2.2 ?_
          refine KY _ ?_
          exact br_t T.2.2.2 h
theorem sh_m_lit (hO : sh_O (dp, A, B, C, pg, aX, aY, pX, pY, pc, qA, qB, qC) (dp, A, B, C, pg, xs, ys, pc, qA, qB, qC) f) : ∃ r : Int32, (∀ post : Int32 → Prop, post r → wpX_lit post (dp, A, B, C, pg, aX, aY, pX, pY, pc, qA, qB, qC)) ∧ (∀ post : Int32 → Prop, post r → wpY_lit post (dp, A, B, C, pg, xs, ys, pc, qA, qB, qC)) := by
  obtain ⟨r, HX, HY⟩ := sh_liO hO 12 0 0 rfl
  exact ⟨r, fun post h => ⟨13, HX post h⟩, fun post h => ⟨13, HY post h⟩⟩
theorem sh_m_seams (hO : sh_O (dp, A, B, C, pg, aX, aY, pX, pY, pc, qA, qB, qC) (dp, A, B, C, pg, xs, ys, pc, qA, qB, qC) f) : ∃ r : Int32, (∀ post : Int32 → Prop, post r → wpX_seams post (dp, A, B, C, pg, aX, aY, pX, pY, pc, qA, qB, qC)) ∧ (∀ post : Int32 → Prop, post r → wpY_seams post (dp, A, B, C, pg, xs, ys, pc, qA, qB, qC)) := by
  obtain ⟨r, HX, HY⟩ := sh_seO hO 12 0 0 rfl
  exact ⟨r, fun post h => ⟨13, HX post h⟩, fun post h => ⟨13, HY post h⟩⟩
end
section
variable {dp A B C : Int32} {aX aY pX pY pc qA qB qC xs ys : Nat → Int32} {m : Nat}
theorem sh_m_covers (hm : m ≤ 6) (hA : sh_All m pX pY xs ys pc) (w x y : Int32) : ∃ r : Int32, (∀ post : Int32 → Prop, post r → wpX_covers post (dp, A, B, C, nI m, aX, aY, pX, pY, pc, qA, qB, qC) w x y) ∧ (∀ post : Int32 → Prop, post r → wpY_covers post (dp, A, B, C, nI m, xs, ys, pc, qA, qB, qC) w x y) := by
  rcases sh_ix2 w (n := m) (by omega) with hw | ⟨p, hp, rfl⟩
  · refine ⟨-1, fun post h => ?_, fun post h => ?_⟩
    · unfold wpX_covers
      refine sh_dX0 _ hw ?_
      exact br_t rfl h
    · unfold wpY_covers
      refine sh_mY1 _ hw ?_
      exact br_f (by decide) h
  · rcases sh_ix2 x (n := 24) (by decide) with hx | ⟨i, hi, rfl⟩
    · refine ⟨-2, fun post h => ?_, fun post h => ?_⟩
      · unfold wpX_covers
        refine sh_dX1 _ hm hp ?_
        refine br_f (by decide) ?_
        refine sh_pXc _ hx ?_
        exact br_t rfl h
      · unfold wpY_covers
        refine sh_mY0 _ hm hp ?_
        refine br_t rfl ?_
        refine sh_cY1 _ hx ?_
        exact br_f (by decide) h
    · rcases sh_ix2 y (n := 12) (by decide) with hy | ⟨j, hj, rfl⟩
      · refine ⟨-2, fun post h => ?_, fun post h => ?_⟩
        · unfold wpX_covers
          refine sh_dX1 _ hm hp ?_
          refine br_f (by decide) ?_
          refine sh_pXr _ hi hy ?_
          exact br_t rfl h
        · unfold wpY_covers
          refine sh_mY0 _ hm hp ?_
          refine br_t rfl ?_
          refine sh_cY0 _ hi ?_
          refine br_t rfl ?_
          refine sh_rY1 _ hy ?_
          exact br_f (by decide) h
      · obtain ⟨b, hb, CX, CY⟩ := sh_cov dp A B C (nI m) aX aY pX pY pc qA qB qC xs ys (p := p) (by omega) hi hj (hA p hp)
        refine ⟨b, fun post h => ?_, fun post h => ?_⟩
        · unfold wpX_covers
          refine sh_dX1 _ hm hp ?_
          refine br_f (by decide) ?_
          refine sh_pX1 _ hi hj ?_
          refine br_f (by decide) ?_
          refine CX _ ?_
          rcases hb with rfl | rfl
          · exact br_t rfl h
          · exact br_f (by decide) h
        · unfold wpY_covers
          refine sh_mY0 _ hm hp ?_
          refine br_t rfl ?_
          refine sh_cY0 _ hi ?_
          refine br_t rfl ?_
          refine sh_rY0 _ hj ?_
          refine br_t rfl ?_
          refine CY _ ?_
          rcases hb with rfl | rfl
          · exact br_t rfl h
          · exact br_f (by decide) h
theorem sh_m_owned {f : Nat → Nat → Option Nat} (hm : m ≤ 6) (hO : sh_O (dp, A, B, C, nI m, aX, aY, pX, pY, pc, qA, qB, qC) (dp, A, B, C, nI m, xs, ys, pc, qA, qB, qC) f) (w : Int32) : ∃ r : Int32, (∀ post : Int32 → Prop, post r → wpX_owned post (dp, A, B, C, nI m, aX, aY, pX, pY, pc, qA, qB, qC) w) ∧ (∀ post : Int32 → Prop, post r → wpY_owned post (dp, A, B, C, nI m, xs, ys, pc, qA, qB, qC) w) := by
  rcases sh_ix2 w (n := m) (by omega) with hw | ⟨p, hp, rfl⟩
  · refine ⟨-1, fun post h => ?_, fun post h => ?_⟩
    · unfold wpX_owned
      refine sh_dX0 _ hw ?_
      exact br_t rfl h
    · unfold wpY_owned
      refine sh_mY1 _ hw ?_
      exact br_f (by decide) h
  · obtain ⟨r, HX, HY⟩ := sh_owO hO (p := p) (by omega) 12 0 0 rfl
    refine ⟨r, fun post h => ?_, fun post h => ?_⟩
    · unfold wpX_owned
      refine sh_dX1 _ hm hp ?_
      exact br_f (by decide) ⟨13, HX post h⟩
    · unfold wpY_owned
      refine sh_mY0 _ hm hp ?_
      exact br_t rfl ⟨13, HY post h⟩
theorem sh_m_covered (hm : m ≤ 6) (hA : sh_All m pX pY xs ys pc) (w : Int32) : ∃ r : Int32, (∀ post : Int32 → Prop, post r → wpX_covered post (dp, A, B, C, nI m, aX, aY, pX, pY, pc, qA, qB, qC) w) ∧ (∀ post : Int32 → Prop, post r → wpY_covered post (dp, A, B, C, nI m, xs, ys, pc, qA, qB, qC) w) := by
  rcases sh_ix2 w (n := m) (by omega) with hw | ⟨p, hp, rfl⟩
  · refine ⟨-1, fun post h => ?_, fun post h => ?_⟩
    · unfold wpX_covered
      refine sh_dX0 _ hw ?_
      exact br_t rfl h
    · unfold wpY_covered
      refine sh_mY1 _ hw ?_
      exact br_f (by decide) h
  · obtain ⟨r, HX, HY⟩ := sh_cvO (dp := dp) (A := A) (B := B) (C := C) (pg := nI m) (aX := aX) (aY := aY) (qA := qA) (qB := qB) (qC := qC) (hA p hp) (by omega) 12 0 0 rfl
    refine ⟨r, fun post h => ?_, fun post h => ?_⟩
    · unfold wpX_covered
      refine sh_dX1 _ hm hp ?_
      exact br_f (by decide) ⟨13, HX post h⟩
    · unfold wpY_covered
      refine sh_mY0 _ hm hp ?_
      exact br_t rfl ⟨13, HY post h⟩
end
