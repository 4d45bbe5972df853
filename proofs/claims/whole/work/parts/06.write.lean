/-! draw, copying from the next polygon, remove -/
section
variable {dp A B C pg : Int32} {aX aY pX pY pc qA qB qC xs ys : Nat → Int32}
theorem sh_tdX (post : SX → Prop) {p : Nat} (hp : p < 6) (h : post (dp, A, B, C, pg, aX, aY, pX, pY, pc, upd qA p A, upd qB p B, upd qC p C)) : wpX_takeDraftPlane post (dp, A, B, C, pg, aX, aY, pX, pY, pc, qA, qB, qC) (nI p) := by
  have hi : vp_in (nI p) 6 := vp_in_nI hp (by decide)
  have hc : (nI p).toNatClampNeg = p := nI_clamp (by omega)
  exact ⟨hi, nm_r (e' := upd qA p A) (by rw [hc]) ⟨hi, nm_r (e' := upd qB p B) (by rw [hc]) ⟨hi, nm_r (e' := upd qC p C) (by rw [hc]) h⟩⟩⟩
theorem sh_tdY (post : SY → Prop) {p : Nat} (hp : p < 6) (h : post (dp, A, B, C, pg, xs, ys, pc, upd qA p A, upd qB p B, upd qC p C)) : wpY_give post (dp, A, B, C, pg, xs, ys, pc, qA, qB, qC) (nI p) := by
  have hi : vp_in (nI p) 6 := vp_in_nI hp (by decide)
  have hc : (nI p).toNatClampNeg = p := nI_clamp (by omega)
  exact ⟨hi, nm_r (e' := upd qA p A) (by rw [hc]) ⟨hi, nm_r (e' := upd qB p B) (by rw [hc]) ⟨hi, nm_r (e' := upd qC p C) (by rw [hc]) h⟩⟩⟩
theorem sh_drX (post : Int32 → SX → Prop) {n m : Nat} (hn : n ≤ 8) (hm : m < 6)
    (h : post (nI m) (nI n, A, B, C, nI (m + 1), aX, aY, sh_ov pX (fun j => aX (j - 8 * m)) (8 * m) n, sh_ov pY (fun j => aY (j - 8 * m)) (8 * m) n, upd pc m (nI n), upd qA m A, upd qB m B, upd qC m C)) :
    ∀ d k : Nat, k + d = n → wX_draw_34 post (nI m) (nI (8 * m)) (nI n) A B C (nI m) (d + 1) (nI k) aX aY (sh_ov pX (fun j => aX (j - 8 * m)) (8 * m) k) (sh_ov pY (fun j => aY (j - 8 * m)) (8 * m) k) pc qA qB qC := by
  intro d
  induction d with
  | zero =>
    intro k hk
    have e : k = n := by omega
    subst e
    refine br_t (nI_le (by omega) (by omega)) ⟨vp_in_nI hm (by decide), nm_r (e' := upd pc m (nI k)) (by rw [nI_clamp (by omega)]) ?_⟩
    exact sh_tdX _ hm (nm_r (nI_1 m) h)
  | succ d ih =>
    intro k hk
    have i1 : vp_in (nI k) 8 := vp_in_nI (by omega) (by decide)
    have i2 : vp_in (nI (8 * m) + nI k) 48 := by rw [nI_add]; exact vp_in_nI (by omega) (by decide)
    have c1 : (nI k).toNatClampNeg = k := nI_clamp (by omega)
    have c2 : (nI (8 * m) + nI k).toNatClampNeg = 8 * m + k := by rw [nI_add]; exact nI_clamp (by omega)
    refine br_f (nI_ge (by omega) (by omega)) ⟨i1, i2, nm_r (e' := sh_ov pX (fun j => aX (j - 8 * m)) (8 * m) (k + 1)) ?_ ⟨i1, i2, nm_r (e' := sh_ov pY (fun j => aY (j - 8 * m)) (8 * m) (k + 1)) ?_ (nm_r (nI_1 k) (ih (k + 1) (by omega)))⟩⟩
    · rw [c1, c2]
      exact sh_ov_s (by show aX k = aX (8 * m + k - 8 * m); rw [Nat.add_sub_cancel_left])
    · rw [c1, c2]
      exact sh_ov_s (by show aY k = aY (8 * m + k - 8 * m); rw [Nat.add_sub_cancel_left])
theorem sh_drY (post : Int32 → SY → Prop) {n m : Nat} (hm : m < 6)
    (h : post (nI m) (nI n, A, B, C, nI (m + 1), sh_ov xs (fun j => xs (48 + (j - 8 * m))) (8 * m) 8, sh_ov ys (fun j => ys (48 + (j - 8 * m))) (8 * m) 8, upd pc m (nI n), upd qA m A, upd qB m B, upd qC m C)) :
    ∀ d k : Nat, k + d = 8 → wY_draw_26 post (nI m) (nI n) A B C (nI m) (d + 1) (nI k) (sh_ov xs (fun j => xs (48 + (j - 8 * m))) (8 * m) k) (sh_ov ys (fun j => ys (48 + (j - 8 * m))) (8 * m) k) pc qA qB qC := by
  intro d
  induction d with
  | zero =>
    intro k hk
    have e : k = 8 := by omega
    subst e
    refine br_t (by decide) ⟨vp_in_nI hm (by decide), nm_r (e' := upd pc m (nI n)) (by rw [nI_clamp (by omega)]) ?_⟩
    exact sh_tdY _ hm (nm_r (nI_1 m) h)
  | succ d ih =>
    intro k hk
    have w1 : 48 + nI k = nI (48 + k) := nI_add 48 k
    have w2 : 8 * nI m + nI k = nI (8 * m + k) := by
      have e : 8 * nI m = nI (8 * m) := pk_mul 8 m
      rw [e, nI_add]
    have i1 : vp_in (48 + nI k) 56 := by rw [w1]; exact vp_in_nI (by omega) (by decide)
    have i2 : vp_in (8 * nI m + nI k) 56 := by rw [w2]; exact vp_in_nI (by omega) (by decide)
    have c1 : (48 + nI k).toNatClampNeg = 48 + k := by rw [w1]; exact nI_clamp (by omega)
    have c2 : (8 * nI m + nI k).toNatClampNeg = 8 * m + k := by rw [w2]; exact nI_clamp (by omega)
    refine br_f (nI_ge (b := 8) (by omega) (by omega)) ⟨i1, i2, nm_r (e' := sh_ov xs (fun j => xs (48 + (j - 8 * m))) (8 * m) (k + 1)) ?_ ⟨i1, i2, nm_r (e' := sh_ov ys (fun j => ys (48 + (j - 8 * m))) (8 * m) (k + 1)) ?_ (nm_r (nI_1 k) (ih (k + 1) (by omega)))⟩⟩
    · rw [c1, c2]
      exact sh_ov_s (by rw [sh_ov_out (by omega)]; show xs (48 + k) = xs (48 + (8 * m + k - 8 * m)); rw [Nat.add_sub_cancel_left])
    · rw [c1, c2]
      exact sh_ov_s (by rw [sh_ov_out (by omega)]; show ys (48 + k) = ys (48 + (8 * m + k - 8 * m)); rw [Nat.add_sub_cancel_left])
/-! what is kept of the relation when the overlays lie in one polygon's cells -/
theorem sh_DrK {n p c : Nat} {Gx Gy : Nat → Int32} (hp : p < 6) (hc : c ≤ 8) (h : sh_Dr n aX aY xs ys) : sh_Dr n aX aY (sh_ov xs Gx (8 * p) c) (sh_ov ys Gy (8 * p) c) := by
  intro k hk
  have z := h k hk
  rw [sh_ov_out (by omega), sh_ov_out (by omega)]
  exact z
theorem sh_PolyK {p t c c' : Nat} {Gx Gy Hx Hy : Nat → Int32} {x : Int32} (ht : t ≠ p) (hc : c ≤ 8) (hc' : c' ≤ 8) (h : sh_Poly pX pY xs ys pc t) :
    sh_Poly (sh_ov pX Gx (8 * p) c) (sh_ov pY Gy (8 * p) c) (sh_ov xs Hx (8 * p) c') (sh_ov ys Hy (8 * p) c') (upd pc p x) t := by
  obtain ⟨e, h1, h2, h3, h4⟩ := h
  refine ⟨e, h1, h2, by rw [pk_un ht]; exact h3, fun k hk => ?_⟩
  have z := h4 k hk
  rw [sh_ov_out (by omega), sh_ov_out (by omega), sh_ov_out (by omega), sh_ov_out (by omega)]
  exact z
theorem sh_AllD {n m : Nat} (h3 : 3 ≤ n) (h8 : n ≤ 8) (hm : m < 6) (hD : sh_Dr n aX aY xs ys) (hA : sh_All m pX pY xs ys pc) :
    sh_All (m + 1) (sh_ov pX (fun j => aX (j - 8 * m)) (8 * m) n) (sh_ov pY (fun j => aY (j - 8 * m)) (8 * m) n) (sh_ov xs (fun j => xs (48 + (j - 8 * m))) (8 * m) 8) (sh_ov ys (fun j => ys (48 + (j - 8 * m))) (8 * m) 8) (upd pc m (nI n)) := by
  intro t ht
  by_cases e : t = m
  · subst e
    refine ⟨n, h3, h8, pk_us, fun k hk => ?_⟩
    have z := hD k hk
    rw [sh_ov_in (by omega) (by omega), sh_ov_in (by omega) (by omega), sh_ov_in (by omega) (by omega), sh_ov_in (by omega) (by omega)]
    show sh_Pt (aX (8 * t + k - 8 * t)) (aY (8 * t + k - 8 * t)) (xs (48 + (8 * t + k - 8 * t))) (ys (48 + (8 * t + k - 8 * t)))
    rw [Nat.add_sub_cancel_left]
    exact z
  · exact sh_PolyK e h8 (by omega) (hA t (by omega))
/-! copying polygon p + 1 to p -/
theorem sh_cpX (post : SX → Prop) {p c : Nat} (hp : p + 1 < 6) (hc : c ≤ 8) (hn : pc (p + 1) = nI c)
    (h : post (dp, A, B, C, pg, aX, aY, sh_ov pX (fun j => pX (j + 8)) (8 * p) c, sh_ov pY (fun j => pY (j + 8)) (8 * p) c, upd pc p (pc (p + 1)), upd qA p (qA (p + 1)), upd qB p (qB (p + 1)), upd qC p (qC (p + 1)))) :
    ∀ d k : Nat, k + d = c → wX_copyFromNext_18 post (nI p) (nI (p + 1)) (nI (8 * p)) (nI (8 * (p + 1))) dp A B C pg (d + 1) (nI k) aX aY (sh_ov pX (fun j => pX (j + 8)) (8 * p) k) (sh_ov pY (fun j => pY (j + 8)) (8 * p) k) pc qA qB qC := by
  have j1 : vp_in (nI p) 6 := vp_in_nI (by omega) (by decide)
  have j2 : vp_in (nI (p + 1)) 6 := vp_in_nI hp (by decide)
  have d1 : (nI p).toNatClampNeg = p := nI_clamp (by omega)
  have d2 : (nI (p + 1)).toNatClampNeg = p + 1 := nI_clamp (by omega)
  intro d
  induction d with
  | zero =>
    intro k hk
    have e : k = c := by omega
    subst e
    refine ⟨j2, br_t (by rw [d2, hn]; exact nI_le (by omega) (by omega)) ⟨j2, j1, nm_r (e' := upd pc p (pc (p + 1))) (by rw [d1, d2]) ⟨j2, j1, nm_r (e' := upd qA p (qA (p + 1))) (by rw [d1, d2]) ⟨j2, j1, nm_r (e' := upd qB p (qB (p + 1))) (by rw [d1, d2]) ⟨j2, j1, nm_r (e' := upd qC p (qC (p + 1))) (by rw [d1, d2]) h⟩⟩⟩⟩⟩
  | succ d ih =>
    intro k hk
    have i1 : vp_in (nI (8 * (p + 1)) + nI k) 48 := by rw [nI_add]; exact vp_in_nI (by omega) (by decide)
    have i2 : vp_in (nI (8 * p) + nI k) 48 := by rw [nI_add]; exact vp_in_nI (by omega) (by decide)
    have c1 : (nI (8 * (p + 1)) + nI k).toNatClampNeg = 8 * p + k + 8 := by rw [nI_add, nI_clamp (by omega)]; omega
    have c2 : (nI (8 * p) + nI k).toNatClampNeg = 8 * p + k := by rw [nI_add]; exact nI_clamp (by omega)
    refine ⟨j2, br_f (by rw [d2, hn]; exact nI_ge (by omega) (by omega)) ⟨i1, i2, nm_r (e' := sh_ov pX (fun j => pX (j + 8)) (8 * p) (k + 1)) ?_ ⟨i1, i2, nm_r (e' := sh_ov pY (fun j => pY (j + 8)) (8 * p) (k + 1)) ?_ (nm_r (nI_1 k) (ih (k + 1) (by omega)))⟩⟩⟩
    · rw [c1, c2]
      exact sh_ov_s (by rw [sh_ov_out (by omega)])
    · rw [c1, c2]
      exact sh_ov_s (by rw [sh_ov_out (by omega)])
theorem sh_cpX' (post : SX → Prop) {p c : Nat} (hp : p + 1 < 6) (hc : c ≤ 8) (hn : pc (p + 1) = nI c)
    (h : post (dp, A, B, C, pg, aX, aY, sh_ov pX (fun j => pX (j + 8)) (8 * p) c, sh_ov pY (fun j => pY (j + 8)) (8 * p) c, upd pc p (pc (p + 1)), upd qA p (qA (p + 1)), upd qB p (qB (p + 1)), upd qC p (qC (p + 1)))) :
    wpX_copyFromNext post (dp, A, B, C, pg, aX, aY, pX, pY, pc, qA, qB, qC) (nI p) := by
  have L := sh_cpX post hp hc hn h c 0 (by omega)
  rw [sh_ov_0, sh_ov_0] at L
  exact nm_r (nI_1 p) (nm_r (e' := nI (8 * p)) (by rw [Nat.mul_comm]; exact pk_mul p 8) (nm_r (e' := nI (8 * (p + 1))) (by rw [Nat.mul_comm]; exact pk_mul (p + 1) 8) ⟨c + 1, L⟩))
theorem sh_cpY (post : Int32 → SY → Prop) (J : Int32 → (Nat → Int32) → (Nat → Int32) → (Nat → Int32) → (Nat → Int32) → (Nat → Int32) → (Nat → Int32) → Prop) {p : Nat} (hp : p + 1 < 6)
    (h : J (nI (p + 1)) (sh_ov xs (fun j => xs (j + 8)) (8 * p) 8) (sh_ov ys (fun j => ys (j + 8)) (8 * p) 8) (upd pc p (pc (p + 1))) (upd qA p (qA (p + 1))) (upd qB p (qB (p + 1))) (upd qC p (qC (p + 1)))) :
    ∀ d k : Nat, k + d = 8 → wY_remove_29 post J (nI p) dp A B C pg (d + 1) (nI k) (sh_ov xs (fun j => xs (j + 8)) (8 * p) k) (sh_ov ys (fun j => ys (j + 8)) (8 * p) k) pc qA qB qC := by
  have j1 : vp_in (nI p) 6 := vp_in_nI (by omega) (by decide)
  have j2 : vp_in (nI p + 1) 6 := by rw [nI_1]; exact vp_in_nI hp (by decide)
  have d1 : (nI p).toNatClampNeg = p := nI_clamp (by omega)
  have d2 : (nI p + 1).toNatClampNeg = p + 1 := by rw [nI_1]; exact nI_clamp (by omega)
  intro d
  induction d with
  | zero =>
    intro k hk
    have e : k = 8 := by omega
    subst e
    refine br_t (by decide) ⟨j2, j1, nm_r (e' := upd pc p (pc (p + 1))) (by rw [d1, d2]) ⟨j2, j1, nm_r (e' := upd qA p (qA (p + 1))) (by rw [d1, d2]) ⟨j2, j1, nm_r (e' := upd qB p (qB (p + 1))) (by rw [d1, d2]) ⟨j2, j1, nm_r (e' := upd qC p (qC (p + 1))) (by rw [d1, d2]) (nm_r (nI_1 p) h)⟩⟩⟩⟩
  | succ d ih =>
    intro k hk
    have w1 : 8 * (nI p + 1) + nI k = nI (8 * p + k + 8) := by
      have e : 8 * nI (p + 1) = nI (8 * (p + 1)) := pk_mul 8 (p + 1)
      rw [nI_1, e, nI_add]
      exact congrArg nI (by omega)
    have w2 : 8 * nI p + nI k = nI (8 * p + k) := by
      have e : 8 * nI p = nI (8 * p) := pk_mul 8 p
      rw [e, nI_add]
    have i1 : vp_in (8 * (nI p + 1) + nI k) 56 := by rw [w1]; exact vp_in_nI (by omega) (by decide)
    have i2 : vp_in (8 * nI p + nI k) 56 := by rw [w2]; exact vp_in_nI (by omega) (by decide)
    have c1 : (8 * (nI p + 1) + nI k).toNatClampNeg = 8 * p + k + 8 := by rw [w1]; exact nI_clamp (by omega)
    have c2 : (8 * nI p + nI k).toNatClampNeg = 8 * p + k := by rw [w2]; exact nI_clamp (by omega)
    refine br_f (nI_ge (b := 8) (by omega) (by decide)) ⟨i1, i2, nm_r (e' := sh_ov xs (fun j => xs (j + 8)) (8 * p) (k + 1)) ?_ ⟨i1, i2, nm_r (e' := sh_ov ys (fun j => ys (j + 8)) (8 * p) (k + 1)) ?_ (nm_r (nI_1 k) (ih (k + 1) (by omega)))⟩⟩
    · rw [c1, c2]
      exact sh_ov_s (by rw [sh_ov_out (by omega)])
    · rw [c1, c2]
      exact sh_ov_s (by rw [sh_ov_out (by omega)])
theorem sh_AllC {m p c : Nat} (hp : p + 1 < m) (hm : m ≤ 6) (hn : pc (p + 1) = nI c) (hc : c ≤ 8) (hA : sh_All m pX pY xs ys pc) :
    sh_All m (sh_ov pX (fun j => pX (j + 8)) (8 * p) c) (sh_ov pY (fun j => pY (j + 8)) (8 * p) c) (sh_ov xs (fun j => xs (j + 8)) (8 * p) 8) (sh_ov ys (fun j => ys (j + 8)) (8 * p) 8) (upd pc p (pc (p + 1))) := by
  intro t ht
  by_cases e : t = p
  · subst e
    obtain ⟨e, h1, h2, h3, h4⟩ := hA (t + 1) hp
    have ec : e = c := (nI_eq (by omega) (by omega)).mp (h3.symm.trans hn)
    subst ec
    refine ⟨e, h1, h2, by rw [pk_us]; exact h3, fun k hk => ?_⟩
    have z := h4 k hk
    rw [sh_ov_in (by omega) (by omega), sh_ov_in (by omega) (by omega), sh_ov_in (by omega) (by omega), sh_ov_in (by omega) (by omega)]
    have q : 8 * (t + 1) + k = 8 * t + k + 8 := by omega
    rw [q] at z
    exact z
  · exact sh_PolyK e hc (by omega) (hA t ht)
end
theorem sh_rmL {dp A B C : Int32} {aX aY : Nat → Int32} {n m : Nat} (hm : m ≤ 6) : ∀ d p : Nat, ∀ pX pY pc qA qB qC xs ys : Nat → Int32, p + 1 + d = m → sh_All m pX pY xs ys pc → sh_Dr n aX aY xs ys →
    ∃ pX' pY' pc' qA' qB' qC' xs' ys' : Nat → Int32, sh_All m pX' pY' xs' ys' pc' ∧ sh_Dr n aX aY xs' ys' ∧
    (∀ post : Int32 → SX → Prop, post (nI (m - 1)) (dp, A, B, C, nI (m - 1), aX, aY, pX', pY', pc', qA', qB', qC') → wX_remove_12 post (d + 1) (nI p) dp A B C (nI m) aX aY pX pY pc qA qB qC) ∧
    (∀ post : Int32 → SY → Prop, post (nI (m - 1)) (dp, A, B, C, nI (m - 1), xs', ys', pc', qA', qB', qC') → wY_remove_12 post dp A B C (nI m) (d + 1) (nI p) xs ys pc qA qB qC) := by
  intro d
  induction d with
  | zero =>
    intro p pX pY pc qA qB qC xs ys hp hA hD
    have e : m = p + 1 := by omega
    subst e
    refine ⟨pX, pY, pc, qA, qB, qC, xs, ys, hA, hD, fun post h => ?_, fun post h => ?_⟩
    · exact br_t (by rw [nI_1]; exact nI_le (by omega) (by omega)) (nm_r (nI_pred p) h)
    · exact br_t (by rw [nI_pred]; exact nI_le (by omega) (by omega)) (nm_r (nI_pred p) h)
  | succ d ih =>
    intro p pX pY pc qA qB qC xs ys hp hA hD
    obtain ⟨c, _, hc, hn, _⟩ := hA (p + 1) (by omega)
    obtain ⟨pX', pY', pc', qA', qB', qC', xs', ys', hA', hD', HX, HY⟩ := ih (p + 1) _ _ _ (upd qA p (qA (p + 1))) (upd qB p (qB (p + 1))) (upd qC p (qC (p + 1))) _ _ (by omega) (sh_AllC (by omega) hm hn hc hA) (sh_DrK (by omega) (by omega) hD)
    refine ⟨pX', pY', pc', qA', qB', qC', xs', ys', hA', hD', fun post h => ?_, fun post h => ?_⟩
    · refine br_f (by rw [nI_1]; exact nI_ge (by omega) (by omega)) (sh_cpX' _ (by omega) hc hn ?_)
      exact nm_r (nI_1 p) (HX post h)
    · have e : nI m - 1 = nI (m - 1) := by
        have q : m = m - 1 + 1 := by omega
        rw [q, nI_pred]
        rfl
      refine br_f (by rw [e]; exact nI_ge (by omega) (by omega)) (br_f (nI_ge (b := 5) (by omega) (by decide)) ⟨9, ?_⟩)
      have L := sh_cpY (dp := dp) (A := A) (B := B) (C := C) (pg := nI m) (xs := xs) (ys := ys) (pc := pc) (qA := qA) (qB := qB) (qC := qC) post _ (p := p) (by omega) (HY post h) 8 0 rfl
      rw [sh_ov_0, sh_ov_0] at L
      exact L
