/-! one edge flips the bit; a whole polygon; both sides give the same bit -/
theorem sh_nar {o : Int32} (h : o = 0 ∨ o = 1) : narrow .boolean (.int o) = .int o := by
  have e : lw_bz o = o := by
    rcases h with rfl | rfl
    · rfl
    · rfl
  have z := lw_bz_n o
  rw [e] at z
  exact z
def sh_fl (b o : Int32) : Int32 := if b = 0 then o else if o = 0 then 1 else 0
theorem sh_fl_01 {b o : Int32} (h : o = 0 ∨ o = 1) : sh_fl b o = 0 ∨ sh_fl b o = 1 := by
  unfold sh_fl
  split
  · exact h
  · split
    · exact Or.inr rfl
    · exact Or.inl rfl
theorem sh_flp {J : Int32 → Int32 → Prop} {b o : Int32} {k : Nat} (h : J (sh_fl b o) (nI (k + 1))) :
    ((b = 0 → (∀ y, y = nI k + 1 → J o y)) ∧ (¬ b = 0 → ((o = 0 → (∀ y, y = nI k + 1 → J 1 y)) ∧ (¬ o = 0 → ∀ y, y = nI k + 1 → J 0 y)))) := by
  unfold sh_fl at h
  refine br_c (fun z => ?_) (fun z => br_c (fun w => ?_) (fun w => ?_))
  · rw [if_pos z] at h; exact nm_r (nI_1 k) h
  · rw [if_neg z, if_pos w] at h; exact nm_r (nI_1 k) h
  · rw [if_neg z, if_neg w] at h; exact nm_r (nI_1 k) h
def sh_nx (c k : Nat) : Nat := if c ≤ k + 1 then 0 else k + 1
theorem sh_nx_lt {c k : Nat} (h : k < c) : sh_nx c k < c := by
  unfold sh_nx
  split
  · omega
  · omega
section
variable (dp A B C pg : Int32) (aX aY pX pY pc qA qB qC xs ys : Nat → Int32)
theorem sh_X58 (post : Int32 → Prop) (J : Int32 → Int32 → Prop) {p k k' a1 b1 a2 b2 px py : Nat} {x7 o z : Int32} (hp6 : p < 6) (hk : k < 8) (hk' : k' < 8) (h1 : a1 ≤ 24) (h2 : b1 ≤ 12) (h3 : a2 ≤ 24) (h4 : b2 ≤ 12) (hp : px ≤ 47) (hq : py ≤ 47)
    (e1 : pX (8 * p + k) = nI a1) (e2 : pY (8 * p + k) = nI b1) (e3 : pX (8 * p + k') = nI a2) (e4 : pY (8 * p + k') = nI b2) (hz : z = nI k') (h : J (sh_fl (sh_cr a1 b1 a2 b2 px py) o) (nI (k + 1))) :
    wX_isCovered_58 post J (nI px) (nI py) (nI (8 * p)) x7 o (nI k) z dp A B C pg aX aY pX pY pc qA qB qC := by
  subst hz
  unfold wX_isCovered_58
  rw [nI_add (8 * p) k, nI_add (8 * p) k']
  exact sh_crX _ dp A B C pg aX aY pX pY pc qA qB qC (by omega) (by omega) h1 h2 h3 h4 hp hq e1 e2 e3 e4 (sh_flp h)
theorem sh_lfY (post : Int32 → Prop) {p k c a1 b1 a2 b2 px py : Nat} {P Q : Int32} (hp6 : p < 6) (hk : k < c) (hc8 : c ≤ 8) (hc : pc p = nI c) (h1 : a1 ≤ 24) (h2 : b1 ≤ 12) (h3 : a2 ≤ 24) (h4 : b2 ≤ 12) (hp : px ≤ 47) (hq : py ≤ 47)
    (e1 : xs (8 * p + k) = nI a1) (e2 : ys (8 * p + k) = nI b1) (e3 : xs (8 * p + sh_nx c k) = nI a2) (e4 : ys (8 * p + sh_nx c k) = nI b2) (hP : P = nI px) (hQ : Q = nI py) (h : post (sh_cr a1 b1 a2 b2 px py)) :
    wpY_left post (dp, A, B, C, pg, xs, ys, pc, qA, qB, qC) (nI p) (nI k) P Q := by
  subst hP hQ
  have hl := sh_nx_lt hk
  refine ⟨vp_in_nI hp6 (by decide), pk_le c (k + 1) (fun z => ?_) (fun z => ?_) (by rw [nI_clamp (by omega), hc]) (nI_1 k)⟩
  · have hn : sh_nx c k = 0 := if_pos z
    rw [hn] at e3 e4
    exact sh_Y19 post dp A B C pg pc qA qB qC xs ys (k' := 0) hp6 (by omega) (by omega) h1 h2 h3 h4 hp hq e1 e2 e3 e4 h
  · have hn : sh_nx c k = k + 1 := if_neg (by omega)
    rw [hn] at e3 e4
    rw [nI_1 k]
    exact sh_Y19 post dp A B C pg pc qA qB qC xs ys (k' := k + 1) hp6 (by omega) (by omega) h1 h2 h3 h4 hp hq e1 e2 e3 e4 h
theorem sh_covL {p c i j : Nat} (hp6 : p < 6) (hi : i < 24) (hj : j < 12) (hc8 : c ≤ 8) (hc : pc p = nI c)
    (hP : ∀ k, k < c → sh_Pt (pX (8 * p + k)) (pY (8 * p + k)) (xs (8 * p + k)) (ys (8 * p + k))) :
    ∀ d k : Nat, ∀ o : Int32, k + d = c → (o = 0 ∨ o = 1) → ∃ r : Int32, (r = 0 ∨ r = 1) ∧
      (∀ post : Int32 → Prop, post r → wX_isCovered_34 post (nI (2 * i + 1)) (nI (2 * j + 1)) (nI (8 * p)) (nI c) dp A B C pg aX aY pX pY pc qA qB qC (d + 1) o (nI k)) ∧
      (∀ post : Int32 → Prop, post r → wY_covering_6 post (nI p) (nI i) (nI j) dp A B C pg xs ys pc qA qB qC (d + 1) o (nI k)) := by
  intro d
  induction d with
  | zero =>
    intro k o hk ho
    refine ⟨o, ho, fun post hp => ?_, fun post hp => ?_⟩
    · exact br_t (nI_le (by omega) (by omega)) ⟨sh_nar ho, hp⟩
    · refine ⟨vp_in_nI hp6 (by decide), br_t ?_ ⟨sh_nar ho, hp⟩⟩
      rw [nI_clamp (by omega), hc]
      exact nI_le (by omega) (by omega)
  | succ d ih =>
    intro k o hk ho
    have hkc : k < c := by omega
    obtain ⟨a1, b1, h1, h2, e1, e2, f1, f2⟩ := hP k hkc
    obtain ⟨a2, b2, h3, h4, e3, e4, f3, f4⟩ := hP _ (sh_nx_lt hkc)
    obtain ⟨r, hr, HX, HY⟩ := ih (k + 1) (sh_fl (sh_cr a1 b1 a2 b2 (2 * i + 1) (2 * j + 1)) o) (by omega) (sh_fl_01 ho)
    refine ⟨r, hr, fun post hp => ?_, fun post hp => ?_⟩
    · refine br_f (nI_ge hkc (by omega)) (pk_le c (k + 1) (fun z => ?_) (fun z => ?_) rfl (nI_1 k))
      · have hn : sh_nx c k = 0 := if_pos z
        rw [hn] at e3 e4
        exact sh_X58 dp A B C pg aX aY pX pY pc qA qB qC post _ (k' := 0) hp6 (by omega) (by omega) h1 h2 h3 h4 (by omega) (by omega) e1 e2 e3 e4 rfl (HX post hp)
      · have hn : sh_nx c k = k + 1 := if_neg (by omega)
        rw [hn] at e3 e4
        exact sh_X58 dp A B C pg aX aY pX pY pc qA qB qC post _ (k' := k + 1) hp6 (by omega) (by omega) h1 h2 h3 h4 (by omega) (by omega) e1 e2 e3 e4 (nI_1 k) (HX post hp)
    · refine ⟨vp_in_nI hp6 (by decide), br_f ?_ (br_f (nI_ge (b := 8) (by omega) (by decide)) ?_)⟩
      · rw [nI_clamp (by omega), hc]
        exact nI_ge hkc (by omega)
      · refine sh_lfY dp A B C pg pc qA qB qC xs ys _ hp6 hkc hc8 hc h1 h2 h3 h4 (px := 2 * i + 1) (py := 2 * j + 1) (by omega) (by omega) f1 f2 f3 f4 ?_ ?_ (sh_flp (HY post hp))
        · rw [sh_2, nI_1]
        · rw [sh_2, nI_1]
theorem sh_cov {p i j : Nat} (hp6 : p < 6) (hi : i < 24) (hj : j < 12) (hP : sh_Poly pX pY xs ys pc p) :
    ∃ r : Int32, (r = 0 ∨ r = 1) ∧
      (∀ post : Int32 → Prop, post r → wpX_isCovered post (dp, A, B, C, pg, aX, aY, pX, pY, pc, qA, qB, qC) (nI p) (nI i) (nI j)) ∧
      (∀ post : Int32 → Prop, post r → wpY_covering post (dp, A, B, C, pg, xs, ys, pc, qA, qB, qC) (nI p) (nI i) (nI j)) := by
  obtain ⟨c, _, hc8, hc, hP⟩ := hP
  obtain ⟨r, hr, HX, HY⟩ := sh_covL dp A B C pg aX aY pX pY pc qA qB qC xs ys hp6 hi hj hc8 hc hP c 0 0 (by omega) (Or.inl rfl)
  refine ⟨r, hr, fun post hp => ?_, fun post hp => ?_⟩
  · refine nm_r (e' := nI (2 * i + 1)) (by rw [sh_2, nI_1]) (nm_r (e' := nI (2 * j + 1)) (by rw [sh_2, nI_1]) (nm_r (e' := nI (8 * p)) (by rw [Nat.mul_comm]; exact pk_mul p 8) ⟨vp_in_nI hp6 (by decide), nm_r (e' := nI c) (by rw [nI_clamp (by omega), hc]) ⟨c + 1, HX post hp⟩⟩))
  · exact ⟨c + 1, HY post hp⟩
/-! depth and owner -/
def sh_dep (q : Nat) (i j : Int32) : Int32 := ((qA q * (2 * i + 1)) + (qB q * (2 * j + 1))) + qC q
theorem sh_dX (post : Int32 → Prop) {q : Nat} {i j : Int32} (hq : q < 6) (h : post (sh_dep qA qB qC q i j)) : wpX_depthOf post (dp, A, B, C, pg, aX, aY, pX, pY, pc, qA, qB, qC) (nI q) i j := by
  have hi : vp_in (nI q) 6 := vp_in_nI hq (by decide)
  refine nm_e (nm_e ⟨hi, hi, hi, ?_⟩)
  rw [nI_clamp (by omega)]
  exact h
theorem sh_dY (post : Int32 → Prop) {q : Nat} {i j : Int32} (hq : q < 6) (h : post (sh_dep qA qB qC q i j)) : wpY_depth post (dp, A, B, C, pg, xs, ys, pc, qA, qB, qC) (nI q) i j := by
  have hi : vp_in (nI q) 6 := vp_in_nI hq (by decide)
  refine ⟨hi, hi, hi, ?_⟩
  rw [nI_clamp (by omega)]
  exact h
theorem sh_ownL {m i j : Nat} (hm : m ≤ 6) (hi : i < 24) (hj : j < 12) (hA : sh_All m pX pY xs ys pc) :
    ∀ d p : Nat, ∀ o : Option Nat, ∀ bd : Int32, p + d = m → (∀ q, o = some q → q < m ∧ bd = sh_dep qA qB qC q (nI i) (nI j)) → ∃ r : Option Nat, (∀ q, r = some q → q < m) ∧
      (∀ post : Int32 → Prop, post (sh_x r) → wX_ownerOf_8 post (nI i) (nI j) dp A B C (nI m) aX aY pX pY pc qA qB qC (d + 1) (sh_x o) bd (nI p)) ∧
      (∀ post : Int32 → Prop, post (sh_y r) → wY_ownerOf_6 post (nI i) (nI j) dp A B C (nI m) xs ys pc qA qB qC (d + 1) (sh_y o) (nI p)) := by
  intro d
  induction d with
  | zero =>
    intro p o bd hp ho
    exact ⟨o, fun q e => (ho q e).1, fun post h => br_t (nI_le (by omega) (by omega)) h, fun post h => br_t (nI_le (by omega) (by omega)) h⟩
  | succ d ih =>
    intro p o bd hp ho
    have hpm : p < m := by omega
    have x1 : ¬ nI m ≤ nI p := nI_ge hpm (by omega)
    have x2 : ¬ (6 : Int32) ≤ nI p := nI_ge (b := 6) (by omega) (by decide)
    obtain ⟨b, hb, CX, CY⟩ := sh_cov dp A B C (nI m) aX aY pX pY pc qA qB qC xs ys (by omega) hi hj (hA p hpm)
    by_cases b0 : b = 0
    · obtain ⟨r, hr, HX, HY⟩ := ih (p + 1) o bd (by omega) ho
      refine ⟨r, hr, fun post h => br_f x1 (CX _ (br_t b0 (nm_r (nI_1 p) (HX post h)))), fun post h => br_f x1 (br_f x2 (CY _ (br_t b0 (nm_r (nI_1 p) (HY post h)))))⟩
    · cases o with
      | none =>
        obtain ⟨r, hr, HX, HY⟩ := ih (p + 1) (some p) (sh_dep qA qB qC p (nI i) (nI j)) (by omega) (fun q e => by cases e; exact ⟨hpm, rfl⟩)
        refine ⟨r, hr, fun post h => br_f x1 (CX _ (br_f b0 ?_)), fun post h => br_f x1 (br_f x2 (CY _ (br_f b0 ?_)))⟩
        · exact sh_dX dp A B C (nI m) aX aY pX pY pc qA qB qC _ (by omega) (br_t rfl (nm_r (nI_1 p) (HX post h)))
        · exact br_f (by decide) (nm_r (nI_1 p) (HY post h))
      | some q =>
        obtain ⟨hq, rfl⟩ := ho q rfl
        have y1 : ¬ nI q = -1 := (sh_t1 q (by omega)).1
        have y2 : 0 ≤ nI q := (sh_t1 q (by omega)).2.2.2
        by_cases le : sh_dep qA qB qC q (nI i) (nI j) ≤ sh_dep qA qB qC p (nI i) (nI j)
        · obtain ⟨r, hr, HX, HY⟩ := ih (p + 1) (some q) (sh_dep qA qB qC q (nI i) (nI j)) (by omega) (fun q' e => by cases e; exact ⟨hq, rfl⟩)
          refine ⟨r, hr, fun post h => br_f x1 (CX _ (br_f b0 ?_)), fun post h => br_f x1 (br_f x2 (CY _ (br_f b0 ?_)))⟩
          · exact sh_dX dp A B C (nI m) aX aY pX pY pc qA qB qC _ (by omega) (br_f y1 (br_t le (nm_r (nI_1 p) (HX post h))))
          · exact br_t y2 (sh_dY dp A B C (nI m) pc qA qB qC xs ys _ (by omega) (sh_dY dp A B C (nI m) pc qA qB qC xs ys _ (by omega) (br_t le (nm_r (nI_1 p) (HY post h)))))
        · obtain ⟨r, hr, HX, HY⟩ := ih (p + 1) (some p) (sh_dep qA qB qC p (nI i) (nI j)) (by omega) (fun q' e => by cases e; exact ⟨hpm, rfl⟩)
          refine ⟨r, hr, fun post h => br_f x1 (CX _ (br_f b0 ?_)), fun post h => br_f x1 (br_f x2 (CY _ (br_f b0 ?_)))⟩
          · exact sh_dX dp A B C (nI m) aX aY pX pY pc qA qB qC _ (by omega) (br_f y1 (br_f le (nm_r (nI_1 p) (HX post h))))
          · exact br_t y2 (sh_dY dp A B C (nI m) pc qA qB qC xs ys _ (by omega) (sh_dY dp A B C (nI m) pc qA qB qC xs ys _ (by omega) (br_f le (nm_r (nI_1 p) (HY post h)))))
theorem sh_own1 {m i j : Nat} (hm : m ≤ 6) (hi : i < 24) (hj : j < 12) (hA : sh_All m pX pY xs ys pc) : ∃ r : Option Nat, (∀ q, r = some q → q < m) ∧
      (∀ post : Int32 → Prop, post (sh_x r) → wpX_ownerOf post (dp, A, B, C, nI m, aX, aY, pX, pY, pc, qA, qB, qC) (nI i) (nI j)) ∧
      (∀ post : Int32 → Prop, post (sh_y r) → wpY_ownerOf post (dp, A, B, C, nI m, xs, ys, pc, qA, qB, qC) (nI i) (nI j)) := by
  obtain ⟨r, hr, HX, HY⟩ := sh_ownL dp A B C aX aY pX pY pc qA qB qC xs ys hm hi hj hA m 0 none 0 (by omega) (fun q e => nomatch e)
  exact ⟨r, hr, fun post h => ⟨m + 1, HX post h⟩, fun post h => ⟨m + 1, HY post h⟩⟩
end
