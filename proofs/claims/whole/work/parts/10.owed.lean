/-! what is owed -/
def i_Rel (_ : Nat) (u : SX) (v : SY) : Prop := ∃ (n m : Nat) (A B C : Int32) (aX aY pX pY pc qA qB qC xs ys : Nat → Int32), n ≤ 8 ∧ m ≤ 6 ∧
  u = (nI n, A, B, C, nI m, aX, aY, pX, pY, pc, qA, qB, qC) ∧ v = (nI n, A, B, C, nI m, xs, ys, pc, qA, qB, qC) ∧ sh_Dr n aX aY xs ys ∧ sh_All m pX pY xs ys pc
theorem sh_mk {k n m : Nat} {A B C : Int32} {aX aY pX pY pc qA qB qC xs ys : Nat → Int32} (hn : n ≤ 8) (hm : m ≤ 6) (hD : sh_Dr n aX aY xs ys) (hA : sh_All m pX pY xs ys pc) :
    i_Rel k (nI n, A, B, C, nI m, aX, aY, pX, pY, pc, qA, qB, qC) (nI n, A, B, C, nI m, xs, ys, pc, qA, qB, qC) :=
  ⟨n, m, A, B, C, aX, aY, pX, pY, pc, qA, qB, qC, xs, ys, hn, hm, rfl, rfl, hD, hA⟩
theorem i_up {k : Nat} {u : SX} {v : SY} (h : i_Rel k u v) : i_Rel (k + 4) u v := h
theorem i_vc0 : wpX_init (fun u => wpY_init (fun v => i_Rel 0 u v)) :=
  ⟨0, 0, 0, 0, 0, fun _ => 0, fun _ => 0, fun _ => 0, fun _ => 0, fun _ => 0, fun _ => 0, fun _ => 0, fun _ => 0, fun _ => 0, fun _ => 0, by omega, by omega, rfl, rfl, fun k h => absurd h (by omega), fun k h => absurd h (by omega)⟩
theorem i_vc_point {k : Nat} {u : SX} {v : SY} (I : i_Rel k u v) (hk : k + 4 ≤ 2048) (v1 : Int32) (v2 : Int32) : wpX_point (fun r u' => wpY_point (fun r' v' => r' = r ∧ i_Rel (k + 4) u' v') v v1 v2) u v1 v2 := by
  obtain ⟨n, m, A, B, C, aX, aY, pX, pY, pc, qA, qB, qC, xs, ys, hn, hm, rfl, rfl, hD, hA⟩ := I
  have J := @sh_mk (k + 4) n m A B C aX aY pX pY pc qA qB qC xs ys hn hm hD hA
  unfold wpX_point
  refine sh_plX _ (Int32.toInt_toInt64 v1) (Int32.toInt_toInt64 v2) (fun w => ?_) (fun w => ?_)
  · refine br_f (by decide) ?_
    by_cases h8 : n < 8
    · have i1 : vp_in (nI n) 8 := vp_in_nI h8 (by decide)
      have c1 : (nI n).toNatClampNeg = n := nI_clamp (by omega)
      have e1 : 48 + nI n = nI (48 + n) := nI_add 48 n
      have i2 : vp_in (48 + nI n) 56 := by rw [e1]; exact vp_in_nI (by omega) (by decide)
      have c2 : (48 + nI n).toNatClampNeg = 48 + n := by rw [e1]; exact nI_clamp (by omega)
      refine br_t (nI_lt (b := 8) h8 (by decide)) ⟨i1, nm_r (e' := upd aX n v1) (by rw [c1]) ⟨i1, nm_r (e' := upd aY n v2) (by rw [c1]) (nm_r (nI_1 n) ?_)⟩⟩
      refine sh_plY rfl rfl (fun _ => ?_) (fun z => absurd w z)
      refine br_t (nI_lt (b := 8) h8 (by decide)) ⟨i2, nm_r (e' := upd xs (48 + n) v1) (by rw [c2]) ⟨i2, nm_r (e' := upd ys (48 + n) v2) (by rw [c2]) (nm_r (nI_1 n) ?_)⟩⟩
      exact ⟨rfl, sh_mk h8 hm (sh_DrP hD w) (sh_AllP hm hA)⟩
    · have g : ¬ nI n < 8 := nI_nlt (b := 8) (by omega) (by omega)
      refine br_f g ?_
      exact sh_plY rfl rfl (fun _ => br_f g ⟨rfl, J⟩) (fun z => absurd w z)
  · refine br_t rfl ?_
    exact sh_plY rfl rfl (fun z => absurd z w) (fun _ => ⟨rfl, J⟩)
theorem i_vc_clear {k : Nat} {u : SX} {v : SY} (I : i_Rel k u v) (hk : k + 4 ≤ 2048) : wpX_clear (fun r u' => wpY_clear (fun r' v' => r' = r ∧ i_Rel (k + 4) u' v') v) u := by
  obtain ⟨n, m, A, B, C, aX, aY, pX, pY, pc, qA, qB, qC, xs, ys, hn, hm, rfl, rfl, hD, hA⟩ := I
  exact ⟨rfl, sh_mk (n := 0) (by omega) hm (fun k h => absurd h (by omega)) hA⟩
theorem i_vc_plane {k : Nat} {u : SX} {v : SY} (I : i_Rel k u v) (hk : k + 4 ≤ 2048) (v1 : Int32) (v2 : Int32) (v3 : Int32) : wpX_plane (fun r u' => wpY_plane (fun r' v' => r' = r ∧ i_Rel (k + 4) u' v') v v1 v2 v3) u v1 v2 v3 := by
  obtain ⟨n, m, A, B, C, aX, aY, pX, pY, pc, qA, qB, qC, xs, ys, hn, hm, rfl, rfl, hD, hA⟩ := I
  have J := @sh_mk (k + 4) n m A B C aX aY pX pY pc qA qB qC xs ys hn hm hD hA
  refine br_c (fun a => br_t a ⟨rfl, J⟩) (fun a => br_c (fun b => br_f a (br_t b ⟨rfl, J⟩)) (fun b => br_c (fun c => br_f a (br_f b (br_t c ⟨rfl, J⟩))) (fun c => br_c (fun d => ?_) (fun d => br_f a (br_f b (br_f c (br_f d ⟨rfl, J⟩)))))))
  refine br_c (fun e => br_f a (br_f b (br_f c (br_t d (br_t e ⟨rfl, J⟩))))) (fun e => br_c (fun g => br_f a (br_f b (br_f c (br_t d (br_f e (br_t g ⟨rfl, sh_mk hn hm hD hA⟩)))))) (fun g => br_f a (br_f b (br_f c (br_t d (br_f e (br_f g ⟨rfl, J⟩)))))))
theorem i_vc_draw {k : Nat} {u : SX} {v : SY} (I : i_Rel k u v) (hk : k + 4 ≤ 2048) : wpX_draw (fun r u' => wpY_draw (fun r' v' => r' = r ∧ i_Rel (k + 4) u' v') v) u := by
  obtain ⟨n, m, A, B, C, aX, aY, pX, pY, pc, qA, qB, qC, xs, ys, hn, hm, rfl, rfl, hD, hA⟩ := I
  have J := @sh_mk (k + 4) n m A B C aX aY pX pY pc qA qB qC xs ys hn hm hD hA
  by_cases h3 : 3 ≤ n
  · have g3 : (3 : Int32) ≤ nI n := nI_le (a := 3) h3 (by omega)
    by_cases h6 : m < 6
    · have g6 : nI m < 6 := nI_lt (b := 6) h6 (by decide)
      refine br_t g3 (br_t g6 (nm_r (e' := nI (8 * m)) (by rw [Nat.mul_comm]; exact pk_mul m 8) ?_))
      refine sh_drX' _ hn h6 ?_
      refine br_t g3 (br_t g6 ?_)
      refine sh_drY' _ h6 ?_
      exact ⟨rfl, sh_mk hn h6 (sh_DrK h6 (by omega) hD) (sh_AllD h3 hn h6 hD hA)⟩
    · have g6 : ¬ nI m < 6 := nI_nlt (b := 6) (by omega) (by omega)
      exact br_t g3 (br_f g6 (br_t g3 (br_f g6 ⟨rfl, J⟩)))
  · have g3 : ¬ (3 : Int32) ≤ nI n := nI_ge (b := 3) (by omega) (by decide)
    exact br_f g3 (br_f g3 ⟨rfl, J⟩)
theorem i_vc_remove {k : Nat} {u : SX} {v : SY} (I : i_Rel k u v) (hk : k + 4 ≤ 2048) (v1 : Int32) : wpX_remove (fun r u' => wpY_remove (fun r' v' => r' = r ∧ i_Rel (k + 4) u' v') v v1) u v1 := by
  obtain ⟨n, m, A, B, C, aX, aY, pX, pY, pc, qA, qB, qC, xs, ys, hn, hm, rfl, rfl, hD, hA⟩ := I
  have J := @sh_mk (k + 4) n m A B C aX aY pX pY pc qA qB qC xs ys hn hm hD hA
  unfold wpX_remove wpY_remove
  rcases sh_ix2 v1 (n := m) (by omega) with hw | ⟨p, hp, rfl⟩
  · refine sh_dX0 _ hw ?_
    refine br_t rfl ?_
    refine sh_mY1 _ hw ?_
    exact br_f (by decide) ⟨rfl, J⟩
  · obtain ⟨pX', pY', pc', qA', qB', qC', xs', ys', hA', hD', HX, HY⟩ := sh_rmL (dp := nI n) (A := A) (B := B) (C := C) hm (m - p - 1) p pX pY pc qA qB qC xs ys (by omega) hA hD
    refine sh_dX1 _ hm hp ?_
    refine br_f (by decide) ⟨_, HX _ ?_⟩
    refine sh_mY0 _ hm hp ?_
    refine br_t rfl ⟨_, HY _ ?_⟩
    exact ⟨rfl, sh_mk hn (by omega) hD' (sh_AllM (by omega) hA')⟩
theorem i_vc_shift {k : Nat} {u : SX} {v : SY} (I : i_Rel k u v) (hk : k + 4 ≤ 2048) (v1 : Int32) (v2 : Int32) (v3 : Int32) : wpX_shift (fun r u' => wpY_shift (fun r' v' => r' = r ∧ i_Rel (k + 4) u' v') v v1 v2 v3) u v1 v2 v3 := by
  obtain ⟨n, m, A, B, C, aX, aY, pX, pY, pc, qA, qB, qC, xs, ys, hn, hm, rfl, rfl, hD, hA⟩ := I
  have J := @sh_mk (k + 4) n m A B C aX aY pX pY pc qA qB qC xs ys hn hm hD hA
  unfold wpX_shift wpY_shift
  rcases sh_ix2 v1 (n := m) (by omega) with hw | ⟨p, hp, rfl⟩
  · refine sh_dX0 _ hw ?_
    refine br_t rfl ?_
    refine sh_mY1 _ hw ?_
    exact br_f (by decide) ⟨rfl, J⟩
  · obtain ⟨c, hc3, hc8, hc, hP⟩ := hA p hp
    refine sh_dX1 _ hm hp ?_
    refine br_f (by decide) ?_
    unfold wpX_staysInside
    refine nm_r (e' := nI (8 * p)) (by rw [Nat.mul_comm]; exact pk_mul p 8) ⟨c + 1, ?_⟩
    refine sh_siX _ (by omega) hc8 hc c 0 (by omega) (fun H => ?_) (fun H => ?_)
    · obtain ⟨a, b, ha, hb, e1, e2, _, _⟩ := hP 0 (by omega)
      obtain ⟨g1, g2, g3, g4⟩ := H 0 (by omega) (by omega)
      rw [e1, nI_toInt (by omega)] at g1 g2
      rw [e2, nI_toInt (by omega)] at g3 g4
      have hx : -24 ≤ v2.toInt ∧ v2.toInt ≤ 24 := by omega
      have hy : -12 ≤ v3.toInt ∧ v3.toInt ≤ 12 := by omega
      refine br_f (by decide) (nm_r (e' := nI (8 * p)) (by rw [Nat.mul_comm]; exact pk_mul p 8) ?_)
      refine sh_shX' _ (by omega) hc8 hc ?_
      refine sh_mY0 _ hm hp ?_
      refine br_t rfl ?_
      refine sh_rgY rfl rfl (fun _ => ⟨c + 1, ?_⟩) (fun z => absurd ⟨hx.1, hx.2, hy.1, hy.2⟩ z)
      refine sh_siY _ (by omega) hc8 hc hx hy hP c 0 (by omega) (fun _ => ?_) (fun Z => absurd H Z)
      refine sh_shY' _ (by omega) hc8 hc ?_
      exact ⟨rfl, sh_mk hn hm (sh_DrK (by omega) hc8 hD) (sh_AllS hp hc hc8 hx hy H hA)⟩
    · refine br_t rfl ?_
      refine sh_mY0 _ hm hp ?_
      refine br_t rfl ?_
      refine sh_rgY rfl rfl (fun w => ⟨c + 1, ?_⟩) (fun _ => ⟨rfl, J⟩)
      exact sh_siY _ (by omega) hc8 hc ⟨w.1, w.2.1⟩ ⟨w.2.2.1, w.2.2.2⟩ hP c 0 (by omega) (fun Z => absurd Z H) (fun _ => ⟨rfl, J⟩)
theorem i_vc_tilt {k : Nat} {u : SX} {v : SY} (I : i_Rel k u v) (hk : k + 4 ≤ 2048) (v1 : Int32) : wpX_tilt (fun r u' => wpY_tilt (fun r' v' => r' = r ∧ i_Rel (k + 4) u' v') v v1) u v1 := by
  obtain ⟨n, m, A, B, C, aX, aY, pX, pY, pc, qA, qB, qC, xs, ys, hn, hm, rfl, rfl, hD, hA⟩ := I
  have J := @sh_mk (k + 4) n m A B C aX aY pX pY pc qA qB qC xs ys hn hm hD hA
  unfold wpX_tilt wpY_tilt
  rcases sh_ix2 v1 (n := m) (by omega) with hw | ⟨p, hp, rfl⟩
  · refine sh_dX0 _ hw ?_
    refine br_t rfl ?_
    refine sh_mY1 _ hw ?_
    exact br_f (by decide) ⟨rfl, J⟩
  · refine sh_dX1 _ hm hp ?_
    refine br_f (by decide) ?_
    refine sh_tdX _ (by omega) ?_
    refine sh_mY0 _ hm hp ?_
    refine br_t rfl ?_
    refine sh_tdY _ (by omega) ?_
    exact ⟨rfl, sh_mk hn hm hD hA⟩
theorem i_vc_drawn {k : Nat} {u : SX} {v : SY} (I : i_Rel k u v) (hk : k + 4 ≤ 2048) : wpX_drawn (fun r => wpY_drawn (fun r' => r' = r ∧ i_Rel (k + 4) u v) v) u := by
  obtain ⟨n, m, A, B, C, aX, aY, pX, pY, pc, qA, qB, qC, xs, ys, hn, hm, rfl, rfl, hD, hA⟩ := I
  exact ⟨rfl, sh_mk hn hm hD hA⟩
theorem i_vc_owner {k : Nat} {u : SX} {v : SY} (I : i_Rel k u v) (hk : k + 4 ≤ 2048) (v1 : Int32) (v2 : Int32) : wpX_owner (fun r => wpY_owner (fun r' => r' = r ∧ i_Rel (k + 4) u v) v v1 v2) u v1 v2 := by
  obtain ⟨n, m, A, B, C, aX, aY, pX, pY, pc, qA, qB, qC, xs, ys, hn, hm, rfl, rfl, hD, hA⟩ := I
  obtain ⟨f, hO⟩ := sh_own (dp := nI n) (A := A) (B := B) (C := C) (aX := aX) (aY := aY) (qA := qA) (qB := qB) (qC := qC) hm hA
  obtain ⟨r, HX, HY⟩ := sh_m_owner hO v1 v2
  exact HX _ (HY _ ⟨rfl, sh_mk hn hm hD hA⟩)
theorem i_vc_depthAt {k : Nat} {u : SX} {v : SY} (I : i_Rel k u v) (hk : k + 4 ≤ 2048) (v1 : Int32) (v2 : Int32) : wpX_depthAt (fun r => wpY_depthAt (fun r' => r' = r ∧ i_Rel (k + 4) u v) v v1 v2) u v1 v2 := by
  obtain ⟨n, m, A, B, C, aX, aY, pX, pY, pc, qA, qB, qC, xs, ys, hn, hm, rfl, rfl, hD, hA⟩ := I
  obtain ⟨f, hO⟩ := sh_own (dp := nI n) (A := A) (B := B) (C := C) (aX := aX) (aY := aY) (qA := qA) (qB := qB) (qC := qC) hm hA
  obtain ⟨r, HX, HY⟩ := sh_m_depthAt hO v1 v2
  exact HX _ (HY _ ⟨rfl, sh_mk hn hm hD hA⟩)
theorem i_vc_covers {k : Nat} {u : SX} {v : SY} (I : i_Rel k u v) (hk : k + 4 ≤ 2048) (v1 : Int32) (v2 : Int32) (v3 : Int32) : wpX_covers (fun r => wpY_covers (fun r' => r' = r ∧ i_Rel (k + 4) u v) v v1 v2 v3) u v1 v2 v3 := by
  obtain ⟨n, m, A, B, C, aX, aY, pX, pY, pc, qA, qB, qC, xs, ys, hn, hm, rfl, rfl, hD, hA⟩ := I
  obtain ⟨r, HX, HY⟩ := sh_m_covers (dp := nI n) (A := A) (B := B) (C := C) (aX := aX) (aY := aY) (qA := qA) (qB := qB) (qC := qC) hm hA v1 v2 v3
  exact HX _ (HY _ ⟨rfl, sh_mk hn hm hD hA⟩)
theorem i_vc_spans {k : Nat} {u : SX} {v : SY} (I : i_Rel k u v) (hk : k + 4 ≤ 2048) (v1 : Int32) : wpX_spans (fun r => wpY_spans (fun r' => r' = r ∧ i_Rel (k + 4) u v) v v1) u v1 := by
  obtain ⟨n, m, A, B, C, aX, aY, pX, pY, pc, qA, qB, qC, xs, ys, hn, hm, rfl, rfl, hD, hA⟩ := I
  obtain ⟨f, hO⟩ := sh_own (dp := nI n) (A := A) (B := B) (C := C) (aX := aX) (aY := aY) (qA := qA) (qB := qB) (qC := qC) hm hA
  obtain ⟨r, HX, HY⟩ := sh_m_spans hO v1
  exact HX _ (HY _ ⟨rfl, sh_mk hn hm hD hA⟩)
theorem i_vc_spanStart {k : Nat} {u : SX} {v : SY} (I : i_Rel k u v) (hk : k + 4 ≤ 2048) (v1 : Int32) (v2 : Int32) : wpX_spanStart (fun r => wpY_spanStart (fun r' => r' = r ∧ i_Rel (k + 4) u v) v v1 v2) u v1 v2 := by
  obtain ⟨n, m, A, B, C, aX, aY, pX, pY, pc, qA, qB, qC, xs, ys, hn, hm, rfl, rfl, hD, hA⟩ := I
  obtain ⟨f, hO⟩ := sh_own (dp := nI n) (A := A) (B := B) (C := C) (aX := aX) (aY := aY) (qA := qA) (qB := qB) (qC := qC) hm hA
  obtain ⟨r, HX, HY⟩ := sh_m_spanStart hO v1 v2
  exact HX _ (HY _ ⟨rfl, sh_mk hn hm hD hA⟩)
theorem i_vc_spanOwner {k : Nat} {u : SX} {v : SY} (I : i_Rel k u v) (hk : k + 4 ≤ 2048) (v1 : Int32) (v2 : Int32) : wpX_spanOwner (fun r => wpY_spanOwner (fun r' => r' = r ∧ i_Rel (k + 4) u v) v v1 v2) u v1 v2 := by
  obtain ⟨n, m, A, B, C, aX, aY, pX, pY, pc, qA, qB, qC, xs, ys, hn, hm, rfl, rfl, hD, hA⟩ := I
  obtain ⟨f, hO⟩ := sh_own (dp := nI n) (A := A) (B := B) (C := C) (aX := aX) (aY := aY) (qA := qA) (qB := qB) (qC := qC) hm hA
  obtain ⟨r, HX, HY⟩ := sh_m_spanOwner hO v1 v2
  exact HX _ (HY _ ⟨rfl, sh_mk hn hm hD hA⟩)
theorem i_vc_owned {k : Nat} {u : SX} {v : SY} (I : i_Rel k u v) (hk : k + 4 ≤ 2048) (v1 : Int32) : wpX_owned (fun r => wpY_owned (fun r' => r' = r ∧ i_Rel (k + 4) u v) v v1) u v1 := by
  obtain ⟨n, m, A, B, C, aX, aY, pX, pY, pc, qA, qB, qC, xs, ys, hn, hm, rfl, rfl, hD, hA⟩ := I
  obtain ⟨f, hO⟩ := sh_own (dp := nI n) (A := A) (B := B) (C := C) (aX := aX) (aY := aY) (qA := qA) (qB := qB) (qC := qC) hm hA
  obtain ⟨r, HX, HY⟩ := sh_m_owned hm hO v1
  exact HX _ (HY _ ⟨rfl, sh_mk hn hm hD hA⟩)
theorem i_vc_covered {k : Nat} {u : SX} {v : SY} (I : i_Rel k u v) (hk : k + 4 ≤ 2048) (v1 : Int32) : wpX_covered (fun r => wpY_covered (fun r' => r' = r ∧ i_Rel (k + 4) u v) v v1) u v1 := by
  obtain ⟨n, m, A, B, C, aX, aY, pX, pY, pc, qA, qB, qC, xs, ys, hn, hm, rfl, rfl, hD, hA⟩ := I
  obtain ⟨r, HX, HY⟩ := sh_m_covered (dp := nI n) (A := A) (B := B) (C := C) (aX := aX) (aY := aY) (qA := qA) (qB := qB) (qC := qC) hm hA v1
  exact HX _ (HY _ ⟨rfl, sh_mk hn hm hD hA⟩)
theorem i_vc_lit {k : Nat} {u : SX} {v : SY} (I : i_Rel k u v) (hk : k + 4 ≤ 2048) : wpX_lit (fun r => wpY_lit (fun r' => r' = r ∧ i_Rel (k + 4) u v) v) u := by
  obtain ⟨n, m, A, B, C, aX, aY, pX, pY, pc, qA, qB, qC, xs, ys, hn, hm, rfl, rfl, hD, hA⟩ := I
  obtain ⟨f, hO⟩ := sh_own (dp := nI n) (A := A) (B := B) (C := C) (aX := aX) (aY := aY) (qA := qA) (qB := qB) (qC := qC) hm hA
  obtain ⟨r, HX, HY⟩ := sh_m_lit hO
  exact HX _ (HY _ ⟨rfl, sh_mk hn hm hD hA⟩)
theorem i_vc_seams {k : Nat} {u : SX} {v : SY} (I : i_Rel k u v) (hk : k + 4 ≤ 2048) : wpX_seams (fun r => wpY_seams (fun r' => r' = r ∧ i_Rel (k + 4) u v) v) u := by
  obtain ⟨n, m, A, B, C, aX, aY, pX, pY, pc, qA, qB, qC, xs, ys, hn, hm, rfl, rfl, hD, hA⟩ := I
  obtain ⟨f, hO⟩ := sh_own (dp := nI n) (A := A) (B := B) (C := C) (aX := aX) (aY := aY) (qA := qA) (qB := qB) (qC := qC) hm hA
  obtain ⟨r, HX, HY⟩ := sh_m_seams hO
  exact HX _ (HY _ ⟨rfl, sh_mk hn hm hD hA⟩)
