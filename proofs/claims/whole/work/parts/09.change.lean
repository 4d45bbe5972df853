/-! the changing methods: both sides' ends -/
section
variable {dp A B C pg : Int32} {aX aY pX pY pc qA qB qC xs ys : Nat → Int32}
theorem sh_drX' (post : Int32 → SX → Prop) {n m : Nat} (hn : n ≤ 8) (hm : m < 6)
    (h : post (nI m) (nI n, A, B, C, nI (m + 1), aX, aY, sh_ov pX (fun j => aX (j - 8 * m)) (8 * m) n, sh_ov pY (fun j => aY (j - 8 * m)) (8 * m) n, upd pc m (nI n), upd qA m A, upd qB m B, upd qC m C)) :
    ∃ n34 : Nat, wX_draw_34 post (nI m) (nI (8 * m)) (nI n) A B C (nI m) n34 0 aX aY pX pY pc qA qB qC := by
  have L := sh_drX post hn hm h n 0 (by omega)
  rw [sh_ov_0, sh_ov_0] at L
  exact ⟨n + 1, L⟩
theorem sh_drY' (post : Int32 → SY → Prop) {n m : Nat} (hm : m < 6)
    (h : post (nI m) (nI n, A, B, C, nI (m + 1), sh_ov xs (fun j => xs (48 + (j - 8 * m))) (8 * m) 8, sh_ov ys (fun j => ys (48 + (j - 8 * m))) (8 * m) 8, upd pc m (nI n), upd qA m A, upd qB m B, upd qC m C)) :
    ∃ n26 : Nat, wY_draw_26 post (nI m) (nI n) A B C (nI m) n26 0 xs ys pc qA qB qC := by
  have L := sh_drY post hm h 8 0 rfl
  rw [sh_ov_0, sh_ov_0] at L
  exact ⟨9, L⟩
theorem sh_shX' (post : Int32 → SX → Prop) {p c : Nat} {x y : Int32} (hp : p < 6) (hc : c ≤ 8) (hn : pc p = nI c)
    (h : post 0 (dp, A, B, C, pg, aX, aY, sh_ov pX (fun j => pX j + x) (8 * p) c, sh_ov pY (fun j => pY j + y) (8 * p) c, pc, qA, qB, qC)) :
    ∃ n34 : Nat, wX_shift_34 post (nI p) x y (nI (8 * p)) dp A B C pg n34 0 aX aY pX pY pc qA qB qC := by
  have L := sh_shX post hp hc hn h c 0 (by omega)
  rw [sh_ov_0, sh_ov_0] at L
  exact ⟨c + 1, L⟩
theorem sh_shY' (post : Int32 → SY → Prop) {p c : Nat} {x y : Int32} (hp : p < 6) (hc : c ≤ 8) (hn : pc p = nI c)
    (h : post 0 (dp, A, B, C, pg, sh_ov xs (fun j => xs j + x) (8 * p) c, sh_ov ys (fun j => ys j + y) (8 * p) c, pc, qA, qB, qC)) :
    ∃ n126 : Nat, wY_shift_126 post (nI p) x y dp A B C pg n126 0 xs ys pc qA qB qC := by
  have L := sh_shY post hp hc hn h c 0 (by omega)
  rw [sh_ov_0, sh_ov_0] at L
  exact ⟨c + 1, L⟩
end
theorem sh_ofI {v : Int32} {M : Nat} (h0 : 0 ≤ v.toInt) (h1 : v.toInt ≤ M) (hM : M ≤ 24) : ∃ a : Nat, a ≤ M ∧ v = nI a := by
  refine ⟨v.toInt.toNat, by omega, Int32.toInt_inj.mp ?_⟩
  rw [nI_toInt (by omega)]
  omega
section
variable {dp A B C : Int32} {aX aY pX pY pc qA qB qC xs ys : Nat → Int32} {m n : Nat}
theorem sh_DrP {x y : Int32} (hD : sh_Dr n aX aY xs ys) (w : 0 ≤ x.toInt ∧ x.toInt ≤ 24 ∧ 0 ≤ y.toInt ∧ y.toInt ≤ 12) : sh_Dr (n + 1) (upd aX n x) (upd aY n y) (upd xs (48 + n) x) (upd ys (48 + n) y) := by
  intro k hk
  by_cases e : k = n
  · subst e
    obtain ⟨a, ha, ea⟩ := sh_ofI (v := x) (M := 24) w.1 (by omega) (by omega)
    obtain ⟨b, hb, eb⟩ := sh_ofI (v := y) (M := 12) w.2.2.1 (by omega) (by omega)
    rw [pk_us, pk_us, pk_us, pk_us]
    exact ⟨a, b, ha, hb, ea, eb, ea, eb⟩
  · have z := hD k (by omega)
    rw [pk_un e, pk_un e, pk_un (by omega), pk_un (by omega)]
    exact z
theorem sh_AllP {x y : Int32} (hm : m ≤ 6) (hA : sh_All m pX pY xs ys pc) : sh_All m pX pY (upd xs (48 + n) x) (upd ys (48 + n) y) pc := by
  intro p hp
  obtain ⟨c, h1, h2, h3, h4⟩ := hA p hp
  refine ⟨c, h1, h2, h3, fun k hk => ?_⟩
  have z := h4 k hk
  rw [pk_un (by omega), pk_un (by omega)]
  exact z
theorem sh_AllM {m' : Nat} (h : m' ≤ m) (hA : sh_All m pX pY xs ys pc) : sh_All m' pX pY xs ys pc := fun p hp => hA p (by omega)
end
